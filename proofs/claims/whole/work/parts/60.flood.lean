/-! rows as connected squares of one strip -/
def lnk (kd st : Ar) (s t : Nat) : Prop := (∃ w, adj s t w) ∧ kd s = 2 ∧ kd t = 2 ∧ st s = st t
theorem lnk_sym {kd st : Ar} {s t : Nat} (h : lnk kd st s t) : lnk kd st t s := by
  obtain ⟨⟨w, a⟩, b, c, d⟩ := h
  exact ⟨⟨w, adj_sym a⟩, c, b, d.symm⟩
theorem lnk_congr {kd st kd' st' : Ar} (h : ∀ s, s < 1200 → kd s = kd' s) (h2 : ∀ s, s < 1200 → kd s = 2 → st s = st' s) {s t : Nat} : lnk kd st s t ↔ lnk kd' st' s t := by
  constructor
  · intro ⟨⟨w, a⟩, b, c, d⟩
    exact ⟨⟨w, a⟩, by rw [← h s a.1]; exact b, by rw [← h t a.2.1]; exact c, by rw [← h2 s a.1 b, ← h2 t a.2.1 c]; exact d⟩
  · intro ⟨⟨w, a⟩, b, c, d⟩
    have b' : kd s = 2 := by rw [h s a.1]; exact b
    have c' : kd t = 2 := by rw [h t a.2.1]; exact c
    exact ⟨⟨w, a⟩, b', c', by rw [h2 s a.1 b', h2 t a.2.1 c']; exact d⟩
def cn (kd st : Ar) (f : Nat) : Nat → Nat → Prop
  | 0, t => t = f
  | m + 1, t => ∃ o, cn kd st f m o ∧ lnk kd st o t
def Cn (kd st : Ar) (f t : Nat) : Prop := ∃ m, cn kd st f m t
theorem cn_congr {kd st kd' st' : Ar} (h : ∀ s, s < 1200 → kd s = kd' s) (h2 : ∀ s, s < 1200 → kd s = 2 → st s = st' s) {f : Nat} : ∀ m t, cn kd st f m t ↔ cn kd' st' f m t := by
  intro m
  induction m with
  | zero => intro t; exact Iff.rfl
  | succ m ih =>
    intro t
    exact ⟨fun ⟨o, a, b⟩ => ⟨o, (ih o).mp a, (lnk_congr h h2).mp b⟩, fun ⟨o, a, b⟩ => ⟨o, (ih o).mpr a, (lnk_congr h h2).mpr b⟩⟩
theorem Cn_congr {kd st kd' st' : Ar} (h : ∀ s, s < 1200 → kd s = kd' s) (h2 : ∀ s, s < 1200 → kd s = 2 → st s = st' s) {f t : Nat} : Cn kd st f t ↔ Cn kd' st' f t :=
  ⟨fun ⟨m, a⟩ => ⟨m, (cn_congr h h2 m t).mp a⟩, fun ⟨m, a⟩ => ⟨m, (cn_congr h h2 m t).mpr a⟩⟩
theorem Cn_in {kd st : Ar} {f : Nat} (hf : f < 1200) (hk : kd f = 2) : ∀ m t, cn kd st f m t → t < 1200 ∧ kd t = 2 ∧ st t = st f := by
  intro m
  induction m with
  | zero => intro t h; have h : t = f := h; rw [h]; exact ⟨hf, hk, rfl⟩
  | succ m ih =>
    intro t ⟨o, a, ⟨w, b⟩, c, d, e⟩
    exact ⟨b.2.1, d, e.symm.trans (ih o a).2.2⟩
/-- while a row fills -/
def FV (kd st num0 num : Ar) (f : Nat) (m : Int32) : Prop := (∀ t, t < 1200 → num t = num0 t ∨ (num t = m ∧ num0 t = -1 ∧ Cn kd st f t)) ∧ num f = m
/-- a row is filled -/
def FP (kd st num0 num : Ar) (f : Nat) (m : Int32) : Prop := ∀ t, t < 1200 → (Cn kd st f t ∧ num t = m) ∨ (¬ Cn kd st f t ∧ num t = num0 t)
/-- what is numbered is whole rows -/
def FC (kd st num0 : Ar) : Prop := ∀ s t, lnk kd st s t → ¬ num0 s = -1 → ¬ num0 t = -1
theorem FV_add {kd st num0 num : Ar} {f : Nat} {m : Int32} (h : FV kd st num0 num f m) (hm : ∀ t, t < 1200 → ¬ num0 t = m) {o t : Nat} (ho : o < 1200) (hv : num o = m) (hl : lnk kd st o t) (ht : num t = -1) (hm1 : ¬ m = -1) : FV kd st num0 (upd num t m) f m := by
  obtain ⟨h1, h2⟩ := h
  have tl : t < 1200 := by obtain ⟨⟨w, a⟩, _⟩ := hl; exact a.2.1
  have co : Cn kd st f o := by
    rcases h1 o ho with q | ⟨_, _, q⟩
    · rw [hv] at q; exact absurd q.symm (hm o ho)
    · exact q
  have t0 : num0 t = -1 := by
    rcases h1 t tl with q | ⟨q, _⟩
    · rw [← q]; exact ht
    · rw [ht] at q; exact absurd q.symm hm1
  refine ⟨fun s hs => ?_, ?_⟩
  · rw [upd_at]
    by_cases e : s = t
    · rw [if_pos e, e]
      obtain ⟨k, hk⟩ := co
      exact Or.inr ⟨rfl, t0, k + 1, o, hk, hl⟩
    · rw [if_neg e]; exact h1 s hs
  · rw [upd_at]
    by_cases e : f = t
    · rw [if_pos e]
    · rw [if_neg e]; exact h2
theorem FV_FP {kd st num0 num : Ar} {f : Nat} {m : Int32} (h : FV kd st num0 num f m) (hm : ∀ t, t < 1200 → ¬ num0 t = m) (hc : FC kd st num0) (hf : f < 1200) (hk : kd f = 2) (hd : ∀ o t, o < 1200 → num o = m → lnk kd st o t → ¬ num t = -1) : FP kd st num0 num f m := by
  obtain ⟨h1, h2⟩ := h
  have all : ∀ k t, cn kd st f k t → num t = m := by
    intro k
    induction k with
    | zero => intro t ht; have ht : t = f := ht; rw [ht]; exact h2
    | succ k ih =>
      intro t ⟨o, a, b⟩
      have ol := (Cn_in hf hk k o a).1
      have tl : t < 1200 := by obtain ⟨⟨w, x⟩, _⟩ := b; exact x.2.1
      have io := ih o a
      have nt := hd o t ol io b
      rcases h1 t tl with q | ⟨q, _⟩
      · exfalso
        rw [q] at nt
        have := hc t o (lnk_sym b) nt
        rcases h1 o ol with r | ⟨_, r, _⟩
        · rw [io] at r; exact hm o ol r.symm
        · exact this r
      · exact q
  intro t ht
  by_cases c : Cn kd st f t
  · obtain ⟨k, hk'⟩ := c
    exact Or.inl ⟨⟨k, hk'⟩, all k t hk'⟩
  · right
    refine ⟨c, ?_⟩
    rcases h1 t ht with q | ⟨_, _, q⟩
    · exact q
    · exact absurd q c
/-- the queue of a row -/
def CQ (kd num sp : Ar) (SP : Nat → Nat) (n : Nat) (m : Int32) : Prop := (∀ i, i < n → sp i = nI (SP i) ∧ SP i < 1200 ∧ num (SP i) = m ∧ kd (SP i) = 2) ∧ (∀ t, t < 1200 → num t = m → ∃ i, i < n ∧ SP i = t) ∧ n = cnt (fun t => decide (num t = m)) 1200
theorem cnt_new {num : Ar} {m : Int32} {t : Nat} (ht : t < 1200) (h : ¬ num t = m) : cnt (fun s => decide (upd num t m s = m)) 1200 = cnt (fun s => decide (num s = m)) 1200 + 1 :=
  cnt_one (k := t) ht (decide_eq_false h) (by rw [upd_at, if_pos rfl]; exact decide_eq_true rfl) (fun s _ e => by rw [upd_at, if_neg e])
theorem CQ_add {kd num sp : Ar} {SP : Nat → Nat} {n t : Nat} {m : Int32} (h : CQ kd num sp SP n m) (ht : t < 1200) (hk : kd t = 2) (hn : ¬ num t = m) : n < 1200 ∧ CQ kd (upd num t m) (upd sp n (nI t)) (uN SP n t) (n + 1) m := by
  obtain ⟨h1, h2, h3⟩ := h
  have c := cnt_new ht hn
  have c2 := cnt_le (fun s => decide (upd num t m s = m)) 1200
  refine ⟨by omega, fun i hi => ?_, fun s hs hm => ?_, by omega⟩
  · rw [upd_at, upd_at]
    by_cases e : i = n
    · rw [if_pos e, e, uN_s, if_pos rfl]
      exact ⟨rfl, ht, rfl, hk⟩
    · rw [if_neg e, uN_n e]
      have := h1 i (by omega)
      rw [if_neg (fun q => hn (by rw [← q]; exact this.2.2.1))]
      exact this
  · rw [upd_at] at hm
    by_cases e : s = t
    · exact ⟨n, by omega, by rw [uN_s, e]⟩
    · rw [if_neg e] at hm
      obtain ⟨i, i1, i2⟩ := h2 s hs hm
      exact ⟨i, by omega, by rw [uN_n (by omega)]; exact i2⟩
theorem floodFrom_ok {kd nr st num0 : Ar} {f : Nat} {m : Int32} (hnr : NearOK kd nr) (hm : ∀ t, t < 1200 → ¬ num0 t = m) (hm1 : ¬ m = -1) {o : Nat} (ho : o < 1200) (hko : kd o = 2) {num sp : Ar} {SP : Nat → Nat} {n : Nat} (hv : num o = m) (h1 : FV kd st num0 num f m) (h2 : CQ kd num sp SP n m) :
    ∃ (num' sp' : Ar) (SP' : Nat → Nat) (n' : Nat), X6_floodFrom m num sp st kd nr (nI o) (nI n) = some (nI n', num', sp') ∧ FV kd st num0 num' f m ∧ CQ kd num' sp' SP' n' m ∧ n ≤ n' ∧ (∀ i, i < n → SP' i = SP i) ∧ (∀ t, ¬ num t = -1 → num' t = num t) ∧ ∀ t, lnk kd st o t → ¬ num' t = -1 := by
  obtain ⟨b, b1, b2, b3⟩ := hnr o ho
  have n01 : ¬ (0 : Int32) = -1 := by decide
  obtain ⟨⟨num', sp', x⟩, w1, SP', n', e1, g1, g2, g3, g4, g5, g6⟩ := whileV_up (body := fun s => X6_floodFrom_L5 m st kd nr (nI o) s.1 s.2.1 s.2.2.1 s.2.2.2) 8
    (fun k s => s.2.2.2 = nI k ∧ ∃ (SP' : Nat → Nat) (n' : Nat), s.2.2.1 = nI n' ∧ FV kd st num0 s.1 f m ∧ CQ kd s.1 s.2.1 SP' n' m ∧ n ≤ n' ∧ (∀ i, i < n → SP' i = SP i) ∧ (∀ t, ¬ num t = -1 → s.1 t = num t) ∧ ∀ j, j < k → ∀ t, stp o j = some t → lnk kd st o t → ¬ s.1 t = -1)
    (fun r => ∃ (SP' : Nat → Nat) (n' : Nat), r.2.2 = nI n' ∧ FV kd st num0 r.1 f m ∧ CQ kd r.1 r.2.1 SP' n' m ∧ n ≤ n' ∧ (∀ i, i < n → SP' i = SP i) ∧ (∀ t, ¬ num t = -1 → r.1 t = num t) ∧ ∀ j, j < 8 → ∀ t, stp o j = some t → lnk kd st o t → ¬ r.1 t = -1)
    (fun k s hk hs => by
      obtain ⟨num1, sp1, x, i⟩ := s
      obtain ⟨rfl, SP', n', rfl, g1, g2, g3, g4, g5, g6⟩ := hs
      dsimp only at g1 g2 g5 g6
      left
      have c8 : ¬ (8 : Int32) ≤ nI k := nI_ge hk (by decide)
      have ics := ix_nI hk (show 8 < 2 ^ 31 by decide)
      have ico := ix_nI ho (show 1200 < 2 ^ 31 by decide)
      have ags : ag stepA (nI k) = stepA k := ag_nI (by omega)
      have agn : ag nr (nI o) = nI b := by rw [ag_nI (by omega), b2]
      have bit := nI_bit (b := b) (k := k) (by omega) (by omega)
      have n'l : n' ≤ 1200 := by rw [g2.2.2]; exact cnt_le _ _
      have vo : num1 o = m := by rw [g5 o (by rw [hv]; exact hm1)]; exact hv
      have skip : (∀ t, stp o k = some t → lnk kd st o t → ¬ num1 t = -1) → X6_floodFrom_L5 m st kd nr (nI o) num1 sp1 (nI n') (nI k) = some (.inl (num1, sp1, nI n', nI (k + 1))) → ∃ s' : Ar × Ar × Int32 × Int32, X6_floodFrom_L5 m st kd nr (nI o) num1 sp1 (nI n') (nI k) = some (.inl s') ∧ s'.2.2.2 = nI (k + 1) ∧ ∃ (SP' : Nat → Nat) (n' : Nat), s'.2.2.1 = nI n' ∧ FV kd st num0 s'.1 f m ∧ CQ kd s'.1 s'.2.1 SP' n' m ∧ n ≤ n' ∧ (∀ i, i < n → SP' i = SP i) ∧ (∀ t, ¬ num t = -1 → s'.1 t = num t) ∧ ∀ j, j < k + 1 → ∀ t, stp o j = some t → lnk kd st o t → ¬ s'.1 t = -1 := by
        intro y1 y2
        refine ⟨_, y2, rfl, SP', n', rfl, g1, g2, g3, g4, g5, fun j hj t => ?_⟩
        by_cases e : j = k
        · rw [e]; exact y1 t
        · exact g6 j (by omega) t
      by_cases tb : b.testBit k = true
      · obtain ⟨t, t1, t2⟩ := (b3 k hk).mp tb
        rw [if_pos tb] at bit
        obtain ⟨t', u1, u2, u3, u4⟩ | ⟨u2, u4⟩ := step_ok ho hk
        · rw [t1] at u2
          obtain rfl := Option.some.inj u2
          have agk : ag kd (nI t) = kd t := ag_nI (by omega)
          have agm : ag num1 (nI t) = num1 t := ag_nI (by omega)
          have agt : ag st (nI t) = st t := ag_nI (by omega)
          have ago : ag st (nI o) = st o := ag_nI (by omega)
          have ict := ix_nI u1 (show 1200 < 2 ^ 31 by decide)
          by_cases full : n' = 1200
          · -- all squares are in the queue
            have allm : ∀ s, s < 1200 → num1 s = m := by
              intro s hs
              by_cases q : num1 s = m
              · exact q
              · have := cnt_new (num := num1) hs q
                have := cnt_le (fun x => decide (upd num1 s m x = m)) 1200
                have := g2.2.2
                omega
            refine skip (fun t' v1 v2 => ?_) ?_
            · rw [t1] at v1
              obtain rfl := Option.some.inj v1
              rw [allm t u1]; exact hm1
            · unfold X6_floodFrom_L5 X6_floodFrom_b5_109
              simp only [if_neg c8, ck_t ico, agn, bit, if_neg (show ¬ (1 : Int32) = 0 by decide), if_pos (show (1200 : Int32) ≤ nI n' from nI_le (a := 1200) (by omega) (by omega)), bnd_some, bnd_none, rmap_some, nm_eq, Sum.elim_inl, Sum.elim_inr, un2_mk, un3_mk, un4_mk, un5_mk, un6_mk, un7_mk, un8_mk, un9_mk, un10_mk, un11_mk, un12_mk, nI_1]
          have nf : ¬ (1200 : Int32) ≤ nI n' := nI_ge (show n' < 1200 by omega) (by decide)
          by_cases k2 : kd t = 2
          · by_cases nt : num1 t = -1
            · by_cases ss : st t = st o
              · have lk : lnk kd st o t := ⟨⟨_, stp_adj ho hk t1⟩, hko, k2, ss.symm⟩
                have ne : ¬ num1 t = m := by rw [nt]; exact Ne.symm hm1
                obtain ⟨p1, p2⟩ := CQ_add g2 u1 k2 ne
                have au1 : ∀ x, au num1 (nI t) x = upd num1 t x := fun x => au_nI (by omega)
                have au2 : ∀ x, au sp1 (nI n') x = upd sp1 n' x := fun x => au_nI (by omega)
                refine ⟨(upd num1 t m, upd sp1 n' (nI t), nI (n' + 1), nI (k + 1)), ?_, rfl, uN SP' n' t, n' + 1, rfl, FV_add g1 hm ho vo lk nt hm1, p2, by omega, fun i hi => by rw [uN_n (by omega)]; exact g4 i hi, fun s hs => ?_, fun j hj t' v1 v2 => ?_⟩
                · show X6_floodFrom_L5 m st kd nr (nI o) num1 sp1 (nI n') (nI k) = _
                  unfold X6_floodFrom_L5 X6_floodFrom_b5_109
                  simp only [if_neg c8, ck_t ico, agn, bit, if_neg (show ¬ (1 : Int32) = 0 by decide), if_neg nf, ck_t ics, ags, u3, ck_t ict, agk, k2, agm, nt, agt, ago, ss, if_true, au1, au2, ck_t (ix_nI (show n' < 1200 by omega) (show 1200 < 2 ^ 31 by decide)), bnd_some, bnd_none, rmap_some, nm_eq, Sum.elim_inl, Sum.elim_inr, un2_mk, un3_mk, un4_mk, un5_mk, un6_mk, un7_mk, un8_mk, un9_mk, un10_mk, un11_mk, un12_mk, nI_1]
                · show upd num1 t m s = _
                  rw [upd_at, if_neg (fun q => by rw [q, ← g5 t (q ▸ hs), nt] at hs; exact hs rfl)]
                  exact g5 s hs
                · show ¬ upd num1 t m t' = -1
                  rw [upd_at]
                  by_cases e : t' = t
                  · rw [if_pos e]; exact hm1
                  · rw [if_neg e]
                    by_cases e2 : j = k
                    · rw [e2, t1] at v1; exact absurd (Option.some.inj v1).symm e
                    · exact g6 j (by omega) t' v1 v2
              · refine skip (fun t' v1 v2 => ?_) ?_
                · rw [t1] at v1
                  obtain rfl := Option.some.inj v1
                  exact absurd v2.2.2.2.symm ss
                · unfold X6_floodFrom_L5 X6_floodFrom_b5_109
                  simp only [if_neg c8, ck_t ico, agn, bit, if_neg (show ¬ (1 : Int32) = 0 by decide), if_neg nf, ck_t ics, ags, u3, ck_t ict, agk, k2, agm, nt, agt, ago, if_neg ss, if_true, bnd_some, bnd_none, rmap_some, nm_eq, Sum.elim_inl, Sum.elim_inr, un2_mk, un3_mk, un4_mk, un5_mk, un6_mk, un7_mk, un8_mk, un9_mk, un10_mk, un11_mk, un12_mk, nI_1]
            · refine skip (fun t' v1 v2 => ?_) ?_
              · rw [t1] at v1
                obtain rfl := Option.some.inj v1
                exact nt
              · unfold X6_floodFrom_L5 X6_floodFrom_b5_109
                simp only [if_neg c8, ck_t ico, agn, bit, if_neg (show ¬ (1 : Int32) = 0 by decide), if_neg nf, ck_t ics, ags, u3, ck_t ict, agk, k2, agm, if_neg nt, if_true, bnd_some, bnd_none, rmap_some, nm_eq, Sum.elim_inl, Sum.elim_inr, un2_mk, un3_mk, un4_mk, un5_mk, un6_mk, un7_mk, un8_mk, un9_mk, un10_mk, un11_mk, un12_mk, nI_1]
          · refine skip (fun t' v1 v2 => ?_) ?_
            · rw [t1] at v1
              obtain rfl := Option.some.inj v1
              exact absurd v2.2.2.1 k2
            · unfold X6_floodFrom_L5 X6_floodFrom_b5_109
              simp only [if_neg c8, ck_t ico, agn, bit, if_neg (show ¬ (1 : Int32) = 0 by decide), if_neg nf, ck_t ics, ags, u3, ck_t ict, agk, if_neg k2, bnd_some, bnd_none, rmap_some, nm_eq, Sum.elim_inl, Sum.elim_inr, un2_mk, un3_mk, un4_mk, un5_mk, un6_mk, un7_mk, un8_mk, un9_mk, un10_mk, un11_mk, un12_mk, nI_1]
        · rw [u2] at t1; exact (nomatch t1)
      · rw [if_neg tb] at bit
        refine skip (fun t v1 v2 => absurd ((b3 k hk).mpr ⟨t, v1, by rw [v2.2.2.1]; decide⟩) tb) ?_
        unfold X6_floodFrom_L5 X6_floodFrom_b5_109
        simp only [if_neg c8, ck_t ico, agn, bit, if_true, bnd_some, bnd_none, rmap_some, nm_eq, Sum.elim_inl, Sum.elim_inr, un2_mk, un3_mk, un4_mk, un5_mk, un6_mk, un7_mk, un8_mk, un9_mk, un10_mk, un11_mk, un12_mk, nI_1])
    (fun s hs => by
      obtain ⟨num1, sp1, x, i⟩ := s
      obtain ⟨rfl, SP', n', rfl, g⟩ := hs
      refine ⟨(num1, sp1, nI n'), ?_, SP', n', rfl, g⟩
      show X6_floodFrom_L5 m st kd nr (nI o) num1 sp1 (nI n') (nI 8) = _
      unfold X6_floodFrom_L5
      rw [if_pos (show (8 : Int32) ≤ nI 8 from nI_le (a := 8) (Nat.le_refl _) (by decide))]) 0 (num, sp, nI n, 0) (by omega) ⟨rfl, SP, n, rfl, h1, h2, Nat.le_refl _, fun _ _ => rfl, fun _ _ => rfl, fun j hj => by omega⟩
  have e1' : x = nI n' := e1
  subst e1'
  refine ⟨num', sp', SP', n', ?_, g1, g2, g3, g4, g5, fun t ht => ?_⟩
  · unfold X6_floodFrom
    simp only [w1, bnd_some, bnd_none, rmap_some, nm_eq, Sum.elim_inl, Sum.elim_inr, un2_mk, un3_mk, un4_mk, un5_mk, un6_mk, un7_mk, un8_mk, un9_mk, un10_mk, un11_mk, un12_mk]
  · have ht' := ht
    obtain ⟨⟨w, a⟩, _⟩ := ht'
    obtain ⟨k, k1, k2, k3⟩ := adj_stp a
    exact g6 k k1 t k2 ht
theorem flood_ok {kd nr st num0 : Ar} {f : Nat} {m : Int32} (hnr : NearOK kd nr) (hm : ∀ t, t < 1200 → ¬ num0 t = m) (hm1 : ¬ m = -1) (hf : f < 1200) (hkf : kd f = 2) (h0 : num0 f = -1) (hc : FC kd st num0) (sp : Ar) :
    ∃ num' sp', X6_flood m num0 sp st kd nr (nI f) = some (num', sp') ∧ FP kd st num0 num' f m := by
  have V0 : FV kd st num0 (upd num0 f m) f m := by
    refine ⟨fun t ht => ?_, by rw [upd_at, if_pos rfl]⟩
    rw [upd_at]
    by_cases e : t = f
    · rw [if_pos e, e]; exact Or.inr ⟨rfl, h0, 0, rfl⟩
    · rw [if_neg e]; exact Or.inl rfl
  have Q0 : CQ kd (upd num0 f m) (upd sp 0 (nI f)) (fun _ => f) 1 m := by
    refine ⟨fun i hi => ?_, fun t ht hv => ?_, ?_⟩
    · have e : i = 0 := by omega
      rw [e, upd_at, if_pos rfl, upd_at, if_pos rfl]
      exact ⟨rfl, hf, rfl, hkf⟩
    · rw [upd_at] at hv
      by_cases e : t = f
      · exact ⟨0, by omega, e.symm⟩
      · rw [if_neg e] at hv; exact absurd hv (hm t ht)
    · rw [cnt_new hf (hm f hf)]
      have : cnt (fun s => decide (num0 s = m)) 1200 = 0 := by
        rcases Nat.eq_zero_or_pos (cnt (fun s => decide (num0 s = m)) 1200) with q | q
        · exact q
        · obtain ⟨k, k1, k2⟩ := cnt_ex q
          exact absurd (of_decide_eq_true k2) (hm k k1)
      omega
  obtain ⟨⟨num', sp'⟩, w1, w2⟩ := whileV_up (body := fun s => X6_flood_L21 m st kd nr s.1 s.2.1 s.2.2.1 s.2.2.2) 1200
    (fun a s => s.2.2.2 = nI a ∧ ∃ (SP : Nat → Nat) (n : Nat), s.2.2.1 = nI n ∧ a ≤ n ∧ FV kd st num0 s.1 f m ∧ CQ kd s.1 s.2.1 SP n m ∧ ∀ i, i < a → ∀ t, lnk kd st (SP i) t → ¬ s.1 t = -1)
    (fun r => FP kd st num0 r.1 f m)
    (fun a s ha hs => by
      obtain ⟨num, sp, x, i⟩ := s
      obtain ⟨rfl, SP, n, rfl, g1, g2, g3, g4⟩ := hs
      dsimp only at g2 g3 g4
      have nl : n ≤ 1200 := by rw [g3.2.2]; exact cnt_le _ _
      by_cases e : a = n
      · right
        refine ⟨(num, sp), ?_, FV_FP g2 hm hc hf hkf (fun o t ho hv hl => ?_)⟩
        · show X6_flood_L21 m st kd nr num sp (nI n) (nI a) = _
          unfold X6_flood_L21
          rw [if_pos (nI_le (by omega) (by omega))]
        · obtain ⟨i, i1, i2⟩ := g3.2.1 o ho hv
          rw [← i2] at hl
          exact g4 i (by omega) t hl
      · left
        obtain ⟨q1, q2, q3, q4⟩ := g3.1 a (by omega)
        obtain ⟨num2, sp2, SP2, n2, y1, y2, y3, y4, y5, y6, y7⟩ := floodFrom_ok hnr hm hm1 q2 q4 q3 g2 g3
        refine ⟨(num2, sp2, nI n2, nI (a + 1)), ?_, rfl, SP2, n2, rfl, by omega, y2, y3, fun i hi t hl => ?_⟩
        · show X6_flood_L21 m st kd nr num sp (nI n) (nI a) = _
          have ag1 : ag sp (nI a) = nI (SP a) := by rw [ag_nI (by omega), q1]
          unfold X6_flood_L21
          simp only [if_neg (nI_ge (show a < n by omega) (show n < 2 ^ 31 by omega)), if_neg (show ¬ (1200 : Int32) ≤ nI a from nI_ge ha (by decide)), ck_t (ix_nI ha (show 1200 < 2 ^ 31 by decide)), ag1, y1, bnd_some, bnd_none, rmap_some, nm_eq, Sum.elim_inl, Sum.elim_inr, un2_mk, un3_mk, un4_mk, un5_mk, un6_mk, un7_mk, un8_mk, un9_mk, un10_mk, un11_mk, un12_mk, nI_1]
        · rw [y5 i (by omega)] at hl
          by_cases e2 : i = a
          · rw [e2] at hl; exact y7 t hl
          · have := g4 i (by omega) t hl
            show ¬ num2 t = -1
            rw [y6 t this]; exact this)
    (fun s hs => by
      obtain ⟨num, sp, x, i⟩ := s
      obtain ⟨rfl, SP, n, rfl, g1, g2, g3, g4⟩ := hs
      dsimp only at g2 g3 g4
      have nl : n ≤ 1200 := by rw [g3.2.2]; exact cnt_le _ _
      refine ⟨(num, sp), ?_, FV_FP g2 hm hc hf hkf (fun o t ho hv hl => ?_)⟩
      · show X6_flood_L21 m st kd nr num sp (nI n) (nI 1200) = _
        unfold X6_flood_L21
        rw [if_pos (nI_le (by omega) (by decide))]
      · obtain ⟨i, i1, i2⟩ := g3.2.1 o ho hv
        rw [← i2] at hl
        exact g4 i (by omega) t hl) 0 (upd num0 f m, upd sp 0 (nI f), nI 1, nI 0) (by omega) ⟨rfl, _, 1, rfl, by omega, V0, Q0, fun i hi => by omega⟩
  refine ⟨num', sp', ?_, w2⟩
  have au1 : ∀ x, au num0 (nI f) x = upd num0 f x := fun x => au_nI (by omega)
  have au2 : au sp 0 (nI f) = upd sp 0 (nI f) := rfl
  have w1' : whileV (fun s => X6_flood_L21 m st kd nr s.1 s.2.1 s.2.2.1 s.2.2.2) (upd num0 f m, upd sp 0 (nI f), 1, 0) = some (num', sp') := w1
  unfold X6_flood
  simp only [ck_t (ix_nI hf (show 1200 < 2 ^ 31 by decide)), au1, ck_t (show ix 0 1200 = true by decide), au2, w1', bnd_some, bnd_none, rmap_some, nm_eq, Sum.elim_inl, Sum.elim_inr, un2_mk, un3_mk, un4_mk, un5_mk, un6_mk, un7_mk, un8_mk, un9_mk, un10_mk, un11_mk, un12_mk]
