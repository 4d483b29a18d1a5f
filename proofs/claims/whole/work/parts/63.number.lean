/-! rows get their numbers: class and reference in step -/
theorem last_ok {al ro : Ar} {m : Int32} {f : Nat} (hf : f < 1200) (hm : ro f = m) : ∃ l0 l, whileV (fun s => X10_makes_L159 m al ro s.1 s.2) (nI f, 0) = some (nI l0) ∧ whileV (fun s => X10_makes_L213 m al ro s.1 s.2) (nI l0, 1199) = some (nI l) ∧ l < 1200 ∧ ro l = m ∧ ∀ t, t < 1200 → ro t = m → al t < al l ∨ (al t = al l ∧ l ≤ t) := by
  obtain ⟨r1, h1, l0, rfl, g1, g2, g3⟩ := whileV_up (body := fun s => X10_makes_L159 m al ro s.1 s.2) 1200
    (fun k s => s.2 = nI k ∧ ∃ v, s.1 = nI v ∧ v < 1200 ∧ ro v = m ∧ ∀ t, t < k → ro t = m → al t ≤ al v)
    (fun r => ∃ v, r = nI v ∧ v < 1200 ∧ ro v = m ∧ ∀ t, t < 1200 → ro t = m → al t ≤ al v)
    (fun k s hk hs => by
      obtain ⟨x, i⟩ := s
      obtain ⟨rfl, v, rfl, q1, q2, q3⟩ := hs
      left
      have c0 : ¬ (1200 : Int32) ≤ nI k := nI_ge hk (by decide)
      have ic := ix_nI hk (show 1200 < 2 ^ 31 by decide)
      have iv := ix_nI q1 (show 1200 < 2 ^ 31 by decide)
      have a1 : ag ro (nI k) = ro k := ag_nI (by omega)
      have a2 : ag al (nI k) = al k := ag_nI (by omega)
      have a3 : ag al (nI v) = al v := ag_nI (by omega)
      have bb : ∀ v : Int32, X10_makes_b159_202 v (nI k) = some (.inl (v, nI (k + 1))) := fun v => by unfold X10_makes_b159_202; rw [nm_eq, nI_1]
      have keep : (ro k = m → al k ≤ al v) → X10_makes_L159 m al ro (nI v) (nI k) = some (.inl (nI v, nI (k + 1))) → ∃ s' : Int32 × Int32, X10_makes_L159 m al ro (nI v) (nI k) = some (.inl s') ∧ s'.2 = nI (k + 1) ∧ ∃ v, s'.1 = nI v ∧ v < 1200 ∧ ro v = m ∧ ∀ t, t < k + 1 → ro t = m → al t ≤ al v := fun y1 y2 =>
        ⟨_, y2, rfl, v, rfl, q1, q2, fun t ht hr => by
          by_cases e : t = k
          · rw [e] at hr ⊢; exact y1 hr
          · exact q3 t (by omega) hr⟩
      by_cases c : ro k = m
      · by_cases d : al k ≤ al v
        · refine keep (fun _ => d) ?_
          unfold X10_makes_L159
          simp only [if_neg c0, ck_t ic, a1, c, if_true, ck_t iv, a2, a3, if_pos d, bb]
        · refine ⟨(nI k, nI (k + 1)), ?_, rfl, k, rfl, hk, c, fun t ht hr => ?_⟩
          · show X10_makes_L159 m al ro (nI v) (nI k) = _
            unfold X10_makes_L159
            simp only [if_neg c0, ck_t ic, a1, c, if_true, ck_t iv, a2, a3, if_neg d, bb]
          · by_cases e : t = k
            · rw [e, Int32.le_iff_toInt_le]; omega
            · have := q3 t (by omega) hr
              rw [Int32.le_iff_toInt_le] at this d ⊢
              omega
      · refine keep (fun q => absurd q c) ?_
        unfold X10_makes_L159
        simp only [if_neg c0, ck_t ic, a1, if_neg c, bb])
    (fun s hs => by
      obtain ⟨x, i⟩ := s
      obtain ⟨rfl, v, rfl, q⟩ := hs
      refine ⟨nI v, ?_, v, rfl, q⟩
      show X10_makes_L159 m al ro (nI v) (nI 1200) = _
      unfold X10_makes_L159
      rw [if_pos (show (1200 : Int32) ≤ nI 1200 from nI_le (a := 1200) (Nat.le_refl _) (by decide))]) 0 (nI f, 0) (by omega) ⟨rfl, f, rfl, hf, hm, fun t ht => by omega⟩
  obtain ⟨r2, h2, l, rfl, k1, k2, k3, k4⟩ := whileV_up (body := fun s => X10_makes_L213 m al ro s.1 s.2) 1200
    (fun n s => s.2 = iI (1199 - n) ∧ ∃ v, s.1 = nI v ∧ v < 1200 ∧ ro v = m ∧ (∀ t, t < 1200 → ro t = m → al t ≤ al v) ∧ ∀ t, t < 1200 → 1200 ≤ t + n → ro t = m → al t = al v → v ≤ t)
    (fun r => ∃ v, r = nI v ∧ v < 1200 ∧ ro v = m ∧ (∀ t, t < 1200 → ro t = m → al t ≤ al v) ∧ ∀ t, t < 1200 → ro t = m → al t = al v → v ≤ t)
    (fun n s hn hs => by
      obtain ⟨x, i⟩ := s
      obtain ⟨rfl, v, rfl, q1, q2, q3, q4⟩ := hs
      left
      obtain ⟨k, hk⟩ : ∃ k, k + n = 1199 := ⟨1199 - n, by omega⟩
      have ek : iI (1199 - (n : Int)) = nI k := by rw [iI_nn (by omega)]; exact congrArg nI (by omega)
      have en : iI (1199 - ((n + 1 : Nat) : Int)) = nI k + (-1) := by rw [← iI_nat, iI_m1, iI_add]; exact congrArg iI (by omega)
      have c0 : ¬ nI k < 0 := nI_nlt (Nat.zero_le k) (by omega)
      have ic := ix_nI (show k < 1200 by omega) (show 1200 < 2 ^ 31 by decide)
      have iv := ix_nI q1 (show 1200 < 2 ^ 31 by decide)
      have a1 : ag ro (nI k) = ro k := ag_nI (by omega)
      have a2 : ag al (nI k) = al k := ag_nI (by omega)
      have a3 : ag al (nI v) = al v := ag_nI (by omega)
      have bb : ∀ v : Int32, X10_makes_b213_253 v (nI k) = some (.inl (v, iI (1199 - ((n + 1 : Nat) : Int)))) := fun v => by unfold X10_makes_b213_253; rw [nm_eq, en]
      have keep : (¬ (ro k = m ∧ al k = al v)) → X10_makes_L213 m al ro (nI v) (nI k) = some (.inl (nI v, iI (1199 - ((n + 1 : Nat) : Int)))) → ∃ s' : Int32 × Int32, X10_makes_L213 m al ro (nI v) (iI (1199 - (n : Int))) = some (.inl s') ∧ s'.2 = iI (1199 - ((n + 1 : Nat) : Int)) ∧ ∃ v, s'.1 = nI v ∧ v < 1200 ∧ ro v = m ∧ (∀ t, t < 1200 → ro t = m → al t ≤ al v) ∧ ∀ t, t < 1200 → 1200 ≤ t + (n + 1) → ro t = m → al t = al v → v ≤ t := fun y1 y2 =>
        ⟨(nI v, iI (1199 - ((n + 1 : Nat) : Int))), by rw [ek]; exact y2, rfl, v, rfl, q1, q2, q3, fun t ht hl hr ha => by
          by_cases e : t = k
          · rw [e] at hr ha; exact absurd ⟨hr, ha⟩ y1
          · exact q4 t ht (by omega) hr ha⟩
      by_cases c : ro k = m
      · by_cases d : al k = al v
        · refine ⟨(nI k, iI (1199 - ((n + 1 : Nat) : Int))), ?_, rfl, k, rfl, by omega, c, fun t ht hr => by rw [d]; exact q3 t ht hr, fun t ht hl hr ha => by omega⟩
          show X10_makes_L213 m al ro (nI v) (iI (1199 - (n : Int))) = _
          rw [ek]
          unfold X10_makes_L213
          simp only [if_neg c0, ck_t ic, a1, c, if_true, ck_t iv, a2, a3, if_pos d, bb]
        · refine keep (fun q => d q.2) ?_
          unfold X10_makes_L213
          simp only [if_neg c0, ck_t ic, a1, c, if_true, ck_t iv, a2, a3, if_neg d, bb]
      · refine keep (fun q => c q.1) ?_
        unfold X10_makes_L213
        simp only [if_neg c0, ck_t ic, a1, if_neg c, bb])
    (fun s hs => by
      obtain ⟨x, i⟩ := s
      obtain ⟨rfl, v, rfl, q1, q2, q3, q4⟩ := hs
      refine ⟨nI v, ?_, v, rfl, q1, q2, q3, fun t ht => q4 t ht (by omega)⟩
      show X10_makes_L213 m al ro (nI v) (iI (1199 - ((1200 : Nat) : Int))) = _
      unfold X10_makes_L213
      rw [if_pos (show iI (1199 - ((1200 : Nat) : Int)) < 0 from (iI_lt (b := 0) (by omega) (by omega) (by omega) (by omega)).mpr (by omega))]) 0 (nI l0, 1199) (by omega) ⟨rfl, l0, rfl, g1, g2, g3, fun t ht hl => by omega⟩
  refine ⟨l0, l, h1, h2, k1, k2, fun t ht hr => ?_⟩
  have a := k3 t ht hr
  rcases tri32 (al t) (al l) with q | q | q
  · exact Or.inl q
  · exact Or.inr ⟨q, k4 t ht hr q⟩
  · exact absurd q ((le32 _ _).mp a)
def EndOK (st al ro en : Ar) (r : Nat) : Prop := ∃ e l, en (2 * r) = nI e ∧ e < 1200 ∧ ro e = nI r ∧ (∀ t, t < 1200 → ro t = nI r → st t = st e ∧ (t = e ∨ ahd al e t)) ∧ en (2 * r + 1) = nI l ∧ l < 1200 ∧ ro l = nI r ∧ ∀ t, t < 1200 → ro t = nI r → al t < al l ∨ (al t = al l ∧ l ≤ t)
def RowsAt (wh st al ro en rs : Ar) (m : Nat) : Prop := (∀ t, t < 1200 → (wh t = 2 ∧ ((∃ r, r < m ∧ ro t = nI r) ∨ ro t = -1)) ∨ (¬ wh t = 2 ∧ ro t = -1)) ∧ FC wh st ro ∧ ∀ r, r < m → EndOK st al ro en r ∧ rs r = nI (cnt (fun t => decide (ro t = nI r)) 1200)
def Nx (al ro st wh : Ar) (r : Int32) : Prop := (r = -1 ∧ ∀ s, s < 1200 → wh s = 2 → ¬ ro s = -1) ∨ ∃ f, r = nI f ∧ f < 1200 ∧ wh f = 2 ∧ ro f = -1 ∧ ∀ s, s < 1200 → wh s = 2 → ro s = -1 → s ≠ f → pre st al f s
theorem FC_FP {kd st num0 num : Ar} {f : Nat} {m : Int32} (hc : FC kd st num0) (h : FP kd st num0 num f m) (hm1 : ¬ m = -1) : FC kd st num := by
  intro s t hl hs
  have sl : s < 1200 := by obtain ⟨⟨w, a⟩, _⟩ := hl; exact a.1
  have tl : t < 1200 := by obtain ⟨⟨w, a⟩, _⟩ := hl; exact a.2.1
  rcases h t tl with ⟨_, q⟩ | ⟨nc, q⟩
  · rw [q]; exact hm1
  · rw [q]
    rcases h s sl with ⟨⟨k, c⟩, _⟩ | ⟨_, z⟩
    · exact absurd ⟨k + 1, s, c, hl⟩ nc
    · rw [z] at hs; exact hc s t hl hs
theorem nI_ne {a b : Nat} (ha : a < 2 ^ 31) (hb : b < 2 ^ 31) (h : a ≠ b) : ¬ nI a = nI b := fun e => h ((nI_eq ha hb).mp e)
theorem nI_m1 {a : Nat} (ha : a < 2 ^ 31) : ¬ nI a = -1 := fun e => by
  have := congrArg Int32.toInt e
  rw [ti_nI ha] at this
  have z : (-1 : Int32).toInt = -1 := by decide
  omega
/-- one row more -/
theorem RowsAt_add {wh st al ro en rs ro' : Ar} {m f l : Nat} (h : RowsAt wh st al ro en rs m) (hm : m < 60) (hf : f < 1200) (hk : wh f = 2) (h0 : ro f = -1) (hn : ∀ s, s < 1200 → wh s = 2 → ro s = -1 → s ≠ f → pre st al f s) (hp : FP wh st ro ro' f (nI m))
    (l1 : l < 1200) (l2 : ro' l = nI m) (l3 : ∀ t, t < 1200 → ro' t = nI m → al t < al l ∨ (al t = al l ∧ l ≤ t)) :
    RowsAt wh st al ro' (upd (upd en (2 * m) (nI f)) (2 * m + 1) (nI l)) (upd rs m (nI (cnt (fun t => decide (ro' t = nI m)) 1200))) (m + 1) := by
  obtain ⟨h1, h2, h3⟩ := h
  have m1 := nI_m1 (show m < 2 ^ 31 by omega)
  have old : ∀ t, t < 1200 → ∀ r, r < m → (ro' t = nI r ↔ ro t = nI r) := by
    intro t ht r hr
    have ne : ¬ nI m = nI r := nI_ne (by omega) (by omega) (by omega)
    rcases hp t ht with ⟨⟨k, c⟩, q⟩ | ⟨_, q⟩
    · rw [q]
      refine ⟨fun e => absurd e ne, fun e => ?_⟩
      exfalso
      -- what is joined to f has no number yet
      have nn : ∀ k t, cn wh st f k t → ro t = -1 := by
        intro k
        induction k with
        | zero => intro t ht; have ht : t = f := ht; rw [ht]; exact h0
        | succ k ih =>
          intro t ⟨o, a, b⟩
          by_cases z : ro t = -1
          · exact z
          · exact absurd (ih o a) (h2 t o (lnk_sym b) z)
      rw [nn k t c] at e
      exact nI_m1 (show r < 2 ^ 31 by omega) e.symm
    · rw [q]
  have unn : ∀ t, t < 1200 → ro' t = nI m → Cn wh st f t := by
    intro t ht e
    rcases hp t ht with ⟨c, _⟩ | ⟨_, q⟩
    · exact c
    · exfalso
      rw [q] at e
      rcases h1 t ht with ⟨_, ⟨r, r1, r2⟩ | r2⟩ | ⟨_, r2⟩
      · rw [r2] at e; exact nI_ne (show r < 2 ^ 31 by omega) (show m < 2 ^ 31 by omega) (by omega) e
      · rw [r2] at e; exact m1 e.symm
      · rw [r2] at e; exact m1 e.symm
  have nn : ∀ k t, cn wh st f k t → ro t = -1 := by
    intro k
    induction k with
    | zero => intro t ht; have ht : t = f := ht; rw [ht]; exact h0
    | succ k ih =>
      intro t ⟨o, a, b⟩
      by_cases z : ro t = -1
      · exact z
      · exact absurd (ih o a) (h2 t o (lnk_sym b) z)
  refine ⟨fun t ht => ?_, FC_FP h2 hp m1, fun r hr => ?_⟩
  · rcases hp t ht with ⟨⟨k, c⟩, q⟩ | ⟨_, q⟩
    · exact Or.inl ⟨(Cn_in hf hk k t c).2.1, Or.inl ⟨m, by omega, q⟩⟩
    · rw [q]
      rcases h1 t ht with ⟨w, ⟨r, r1, r2⟩ | r2⟩ | r
      · exact Or.inl ⟨w, Or.inl ⟨r, by omega, r2⟩⟩
      · exact Or.inl ⟨w, Or.inr r2⟩
      · exact Or.inr r
  · by_cases e : r = m
    · subst e
      refine ⟨⟨f, l, ?_, hf, ?_, fun t ht hr => ?_, ?_, l1, l2, l3⟩, by rw [upd_at, if_pos rfl]⟩
      · rw [upd_at, if_neg (by omega), upd_at, if_pos rfl]
      · rcases hp f hf with ⟨_, q⟩ | ⟨c, _⟩
        · exact q
        · exact absurd ⟨0, rfl⟩ c
      · obtain ⟨k, c⟩ := unn t ht hr
        obtain ⟨_, w, s⟩ := Cn_in hf hk k t c
        refine ⟨s, ?_⟩
        by_cases e : t = f
        · exact Or.inl e
        · rcases hn t ht w (nn k t c) e with z | z
          · rw [s] at z; exact absurd z (irr32 _)
          · exact Or.inr z.2
      · rw [upd_at, if_pos rfl]
    · have hr' : r < m := by omega
      obtain ⟨⟨e, l', y1, y2, y3, y4, y5, y6, y7, y8⟩, z⟩ := h3 r hr'
      refine ⟨⟨e, l', ?_, y2, (old e y2 r hr').mpr y3, fun t ht hr => y4 t ht ((old t ht r hr').mp hr), ?_, y6, (old l' y6 r hr').mpr y7, fun t ht hr => y8 t ht ((old t ht r hr').mp hr)⟩, ?_⟩
      · rw [upd_at, if_neg (by omega), upd_at, if_neg (by omega)]; exact y1
      · rw [upd_at, if_neg (by omega), upd_at, if_neg (by omega)]; exact y5
      · rw [upd_at, if_neg (by omega), z]
        exact congrArg nI (cnt_congr (fun t ht => decide_eq_decide.mpr (old t ht r hr').symm))
theorem sim {kd wh nr stc str alr so : Ar} {G : Nat → Nat} {n : Nat} (hnr : NearOK kd nr) (hk : ∀ s, s < 1200 → kd s = wh s) (hst : ∀ s, s < 1200 → kd s = 2 → stc s = str s) (hn : n ≤ 1200) (hso : ∀ k, k < n → so k = nI (G k)) (hG : Lst n G (pre str alr) (fun s => s < 1200 ∧ kd s = 2)) :
    ∀ d k m num sp ro en rs pl v4, k + d = n → m ≤ 60 → (∀ t, t < 1200 → num t = ro t) → RowsAt wh str alr ro en rs m → (∀ j, j < k → ¬ num (G j) = -1) → Nx alr ro str wh v4 →
    (∃ m' num' sp' ro' en' rs' pl', m' ≤ 60 ∧ whileV (fun s => X6_numberAll_L2 (nI n) so stc kd nr s.1 s.2.1 s.2.2.1 s.2.2.2) (nI m, num, sp, nI k) = some (.inl (nI m', num', sp')) ∧
      whileV (fun s => X10_makes_L104 alr str wh s.1 s.2.1 s.2.2.1 s.2.2.2.1 s.2.2.2.2.1 s.2.2.2.2.2) (nI m, en, pl, ro, rs, v4) = some (.inl (nI m', en', pl', ro', rs')) ∧ (∀ t, t < 1200 → num' t = ro' t) ∧ RowsAt wh str alr ro' en' rs' m' ∧ ∀ t, t < 1200 → wh t = 2 → ¬ ro' t = -1) ∨
    (∃ num' sp' ro' en' rs' pl', whileV (fun s => X6_numberAll_L2 (nI n) so stc kd nr s.1 s.2.1 s.2.2.1 s.2.2.2) (nI m, num, sp, nI k) = some (.inr (nI 60, num', sp')) ∧
      whileV (fun s => X10_makes_L104 alr str wh s.1 s.2.1 s.2.2.1 s.2.2.2.1 s.2.2.2.2.1 s.2.2.2.2.2) (nI m, en, pl, ro, rs, v4) = some (.inr (nI 60, en', pl', ro', rs'))) := by
  obtain ⟨G1, G2, G3⟩ := hG
  intro d
  induction d with
  | zero =>
    intro k m num sp ro en rs pl v4 hd hm ha hr hj hx
    left
    have ek : k = n := by omega
    subst ek
    have all : ∀ t, t < 1200 → wh t = 2 → ¬ ro t = -1 := by
      intro t ht hw
      obtain ⟨j, j1, j2⟩ := G3 t ⟨ht, by rw [hk t ht]; exact hw⟩
      have := hj j j1
      rw [j2, ha t ht] at this
      exact this
    have v : v4 = -1 := by
      rcases hx with ⟨q, _⟩ | ⟨f, _, q1, q2, q3, _⟩
      · exact q
      · exact absurd q3 (all f q1 q2)
    subst v
    refine ⟨m, num, sp, ro, en, rs, pl, hm, whileV_end ?_, whileV_end ?_, ha, hr, all⟩
    · show X6_numberAll_L2 (nI k) so stc kd nr (nI m) num sp (nI k) = _
      unfold X6_numberAll_L2
      rw [if_pos (nI_le (Nat.le_refl k) (by omega))]
    · show X10_makes_L104 alr str wh (nI m) en pl ro rs (-1) = _
      unfold X10_makes_L104
      rw [if_pos (show (-1 : Int32) < 0 by decide)]
  | succ d ih =>
    intro k m num sp ro en rs pl v4 hd hm ha hr hj hx
    have kn : k < n := by omega
    obtain ⟨gl, gk⟩ := G1 k kn
    have c0 : ¬ nI n ≤ nI k := nI_ge kn (by omega)
    have ic := ix_nI (show k < 1200 by omega) (show 1200 < 2 ^ 31 by decide)
    have ig := ix_nI gl (show 1200 < 2 ^ 31 by decide)
    have a1 : ag so (nI k) = nI (G k) := by rw [ag_nI (by omega), hso k kn]
    have a2 : ag num (nI (G k)) = num (G k) := ag_nI (by omega)
    by_cases u : num (G k) = -1
    · have ug : ro (G k) = -1 := by rw [← ha _ gl]; exact u
      have wg : wh (G k) = 2 := by rw [← hk _ gl]; exact gk
      rcases hx with ⟨_, q⟩ | ⟨f, rfl, q1, q2, q3, q4⟩
      · exact absurd ug (q _ gl wg)
      · have ef : f = G k := by
          by_cases e : G k = f
          · exact e.symm
          · exfalso
            have p1 := q4 _ gl wg ug e
            obtain ⟨j, j1, j2⟩ := G3 f ⟨q1, by rw [hk f q1]; exact q2⟩
            have nj : ¬ j < k := fun z => by
              have := hj j z
              rw [j2, ha f q1] at this
              exact this q3
            rcases Nat.lt_or_ge k j with z | z
            · have p2 := G2 k j z j1
              rw [j2] at p2
              exact pre_irr _ _ _ (pre_tr p1 p2)
            · have : j = k := by omega
              rw [this] at j2
              exact e j2
        subst ef
        have cv : ¬ nI (G k) < 0 := nI_nlt (Nat.zero_le _) (by omega)
        by_cases m60 : m = 60
        · subst m60
          right
          refine ⟨num, sp, ro, en, rs, pl, whileV_end ?_, whileV_end ?_⟩
          · show X6_numberAll_L2 (nI n) so stc kd nr (nI 60) num sp (nI k) = _
            unfold X6_numberAll_L2
            simp only [if_neg c0, ck_t ic, a1, ck_t ig, a2, u, if_true, if_neg (show ¬ nI 60 < 60 by decide)]
          · show X10_makes_L104 alr str wh (nI 60) en pl ro rs (nI (G k)) = _
            unfold X10_makes_L104
            rw [if_neg cv, if_pos (show nI 60 = 60 from rfl)]
        · have ml : m < 60 := by omega
          have hmr : ∀ t, t < 1200 → ¬ ro t = nI m := fun t ht e => by
            rcases hr.1 t ht with ⟨_, ⟨r, r1, r2⟩ | r2⟩ | ⟨_, r2⟩
            · rw [r2] at e; exact nI_ne (show r < 2 ^ 31 by omega) (show m < 2 ^ 31 by omega) (by omega) e
            · rw [r2] at e; exact nI_m1 (show m < 2 ^ 31 by omega) e.symm
            · rw [r2] at e; exact nI_m1 (show m < 2 ^ 31 by omega) e.symm
          have m1 := nI_m1 (show m < 2 ^ 31 by omega)
          have fcc : FC kd stc num := fun s t hl hs => by
            have sl : s < 1200 := by obtain ⟨⟨w, a⟩, _⟩ := hl; exact a.1
            have tl : t < 1200 := by obtain ⟨⟨w, a⟩, _⟩ := hl; exact a.2.1
            rw [ha t tl]
            rw [ha s sl] at hs
            exact hr.2.1 s t ((lnk_congr hk hst).mp hl) hs
          obtain ⟨num', sp', x1, x2⟩ := flood_ok hnr (m := nI m) (fun t ht => by rw [ha t ht]; exact hmr t ht) m1 gl gk u fcc sp
          obtain ⟨ro', pl', y1, y2⟩ := fills_ok (m := nI m) hmr m1 gl wg ug hr.2.1 pl
          have rf : ro' (G k) = nI m := by
            rcases y2 _ gl with ⟨_, q⟩ | ⟨c, _⟩
            · exact q
            · exact absurd ⟨0, rfl⟩ c
          obtain ⟨l0, l, z1, z2, z3, z4, z5⟩ := last_ok (al := alr) gl rf
          obtain ⟨r', w1, w2⟩ := next_ok alr ro' str wh
          have ha' : ∀ t, t < 1200 → num' t = ro' t := fun t ht => by
            rcases x2 t ht with ⟨c, q⟩ | ⟨c, q⟩ <;> rcases y2 t ht with ⟨c', q'⟩ | ⟨c', q'⟩
            · rw [q, q']
            · exact absurd ((Cn_congr hk hst).mp c) c'
            · exact absurd ((Cn_congr hk hst).mpr c') c
            · rw [q, q']; exact ha t ht
          have st1 : X6_numberAll_L2 (nI n) so stc kd nr (nI m) num sp (nI k) = some (.inl (nI (m + 1), num', sp', nI (k + 1))) := by
            unfold X6_numberAll_L2 X6_numberAll_b2_59
            simp only [if_neg c0, ck_t ic, a1, ck_t ig, a2, u, if_true, if_pos (show nI m < 60 from nI_lt (b := 60) ml (by decide)), x1, bnd_some, bnd_none, rmap_some, nm_eq, Sum.elim_inl, Sum.elim_inr, un2_mk, un3_mk, un4_mk, un5_mk, un6_mk, un7_mk, un8_mk, un9_mk, un10_mk, un11_mk, un12_mk, nI_1]
          have tm : (2 : Int32) * nI m = nI (2 * m) := pk_mul 2 m
          have au1 : ∀ (f : Ar) x, au f (nI m) x = upd f m x := fun f x => au_nI (by omega)
          have au2 : ∀ (f : Ar) x, au f (nI (2 * m)) x = upd f (2 * m) x := fun f x => au_nI (by omega)
          have au3 : ∀ (f : Ar) x, au f (nI (2 * m + 1)) x = upd f (2 * m + 1) x := fun f x => au_nI (by omega)
          have st2 : X10_makes_L104 alr str wh (nI m) en pl ro rs (nI (G k)) = some (.inl (nI (m + 1), upd (upd en (2 * m) (nI (G k))) (2 * m + 1) (nI l), pl', ro', upd rs m (nI (cnt (fun t => decide (ro' t = nI m)) 1200)), r')) := by
            unfold X10_makes_L104
            simp only [if_neg cv, if_neg (show ¬ nI m = 60 from nI_ne (b := 60) (by omega) (by decide) m60), y1, bnd_some, bnd_none, rmap_some, nm_eq, Sum.elim_inl, Sum.elim_inr, un2_mk, un3_mk, un4_mk, un5_mk, un6_mk, un7_mk, un8_mk, un9_mk, un10_mk, un11_mk, un12_mk, ck_t (ix_nI (show m < 61 by omega) (show 61 < 2 ^ 31 by decide)), tm, nI_1, ck_t (ix_nI (show 2 * m < 122 by omega) (show 122 < 2 ^ 31 by decide)), ck_t (ix_nI (show 2 * m + 1 < 122 by omega) (show 122 < 2 ^ 31 by decide)), au1, au2, au3, z1, z2, w1]
          have I := ih (k + 1) (m + 1) num' sp' ro' _ _ pl' r' (by omega) (by omega) ha' (RowsAt_add hr ml gl wg ug q4 y2 z3 z4 z5) (fun j hj' => ?_) w2
          · rcases I with ⟨m', num2, sp2, ro2, en2, rs2, pl2, i1, i2, i3, i4⟩ | ⟨num2, sp2, ro2, en2, rs2, pl2, i2, i3⟩
            · exact Or.inl ⟨m', num2, sp2, ro2, en2, rs2, pl2, i1, whileV_to st1 i2, whileV_to st2 i3, i4⟩
            · exact Or.inr ⟨num2, sp2, ro2, en2, rs2, pl2, whileV_to st1 i2, whileV_to st2 i3⟩
          · by_cases e : j = k
            · rw [e, ha' _ gl, rf]; exact m1
            · have gj := (G1 j (by omega)).1
              have := hj j (by omega)
              rcases x2 _ gj with ⟨_, q⟩ | ⟨_, q⟩
              · rw [q]; exact m1
              · rw [q]; exact this
    · have st1 : X6_numberAll_L2 (nI n) so stc kd nr (nI m) num sp (nI k) = some (.inl (nI m, num, sp, nI (k + 1))) := by
        unfold X6_numberAll_L2 X6_numberAll_b2_59
        simp only [if_neg c0, ck_t ic, a1, ck_t ig, a2, if_neg u, bnd_some, bnd_none, rmap_some, nm_eq, Sum.elim_inl, Sum.elim_inr, un2_mk, un3_mk, un4_mk, un5_mk, un6_mk, un7_mk, un8_mk, un9_mk, un10_mk, un11_mk, un12_mk, nI_1]
      have I := ih (k + 1) m num sp ro en rs pl v4 (by omega) hm ha hr (fun j hj' => by
        by_cases e : j = k
        · rw [e]; exact u
        · exact hj j (by omega)) hx
      rcases I with ⟨m', num2, sp2, ro2, en2, rs2, pl2, i1, i2, i3, i4⟩ | ⟨num2, sp2, ro2, en2, rs2, pl2, i2, i3⟩
      · exact Or.inl ⟨m', num2, sp2, ro2, en2, rs2, pl2, i1, whileV_to st1 i2, i3, i4⟩
      · exact Or.inr ⟨num2, sp2, ro2, en2, rs2, pl2, whileV_to st1 i2, i3⟩
