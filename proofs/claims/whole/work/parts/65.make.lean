/-! making rows: class and reference -/
theorem dst_ex {kd nr : Ar} (hn : NearOK kd nr) : ∃ DD : Nat → Nat → Nat, ∀ f t, f < 1200 → t < 1200 → ¬ kd t = 0 → Dst kd f t (DD f t) := by
  have ch : ∀ f, ∃ L : Nat → Nat, f < 1200 → ∀ t, t < 1200 → ¬ kd t = 0 → Dst kd f t (L t) := fun f => by
    by_cases c : f < 1200
    · obtain ⟨_, _, _, _, _, _, L, h⟩ := measure_ok hn c 0 0 (fun _ => 0) (fun _ => 0) (fun _ => 0)
      exact ⟨L, fun _ t ht => (h t ht).2⟩
    · exact ⟨fun _ => 0, fun q => absurd q c⟩
  obtain ⟨DD, h⟩ := Classical.axiomOfChoice ch
  exact ⟨DD, fun f t hf ht => h f hf t ht⟩
/-- a turn as the reference keeps it -/
def tnv (v : Nat) : Int32 := if v = 1000000 then -1 else nI v
theorem tab_row {wh enr far : Ar} {E : Nat → Nat} {D : Nat → Nat → Nat} {m f : Nat} {L : Nat → Nat} (hm : m ≤ 60) (hE : ∀ k, k < 2 * m → enr k = nI (E k) ∧ E k < 1200) (hD : ∀ f t, f < 2 * m → t < 2 * m → Dst wh (E f) (E t) (D f t)) (hf : f < 2 * m) (hL : ∀ s, s < 1200 → far s = nI (L s)) (h : RF wh (E f) L) (tu : Ar) :
    ∃ tu', whileV (fun s => X10_makes_L321 (nI m) (nI (E f)) enr far wh (nI f) s.1 s.2) (tu, 0) = some tu' ∧ (∀ t, t < 2 * m → tu' (120 * f + t) = tnv (D f t)) ∧ ∀ j, (∀ t, t < 2 * m → j ≠ 120 * f + t) → tu' j = tu j := by
  have tm : (2 : Int32) * nI m = nI (2 * m) := pk_mul 2 m
  obtain ⟨tu', h1, h2, h3⟩ := whileV_up (body := fun s => X10_makes_L321 (nI m) (nI (E f)) enr far wh (nI f) s.1 s.2) (2 * m)
    (fun k s => s.2 = nI k ∧ (∀ t, t < k → s.1 (120 * f + t) = tnv (D f t)) ∧ ∀ j, (∀ t, t < 2 * m → j ≠ 120 * f + t) → s.1 j = tu j)
    (fun r => (∀ t, t < 2 * m → r (120 * f + t) = tnv (D f t)) ∧ ∀ j, (∀ t, t < 2 * m → j ≠ 120 * f + t) → r j = tu j)
    (fun k s hk hs => by
      obtain ⟨g, i⟩ := s
      obtain ⟨rfl, q1, q2⟩ := hs
      dsimp only at q1 q2
      left
      obtain ⟨e1, e2⟩ := hE k hk
      have a1 : ag enr (nI k) = nI (E k) := by rw [ag_nI (by omega), e1]
      have w := endWay_ok hL h (hE f hf).2 e2 (hD f k hf hk)
      have tf : (120 : Int32) * nI f + nI k = nI (120 * f + k) := by rw [show (120 : Int32) * nI f = nI (120 * f) from pk_mul 120 f, nI_add]
      have au1 : ∀ x, au g (nI (120 * f + k)) x = upd g (120 * f + k) x := fun x => au_nI (by omega)
      refine ⟨(upd g (120 * f + k) (tnv (D f k)), nI (k + 1)), ?_, rfl, fun t ht => ?_, fun j hj => ?_⟩
      · show X10_makes_L321 (nI m) (nI (E f)) enr far wh (nI f) g (nI k) = _
        unfold X10_makes_L321
        simp only [tm, if_neg (nI_ge hk (show 2 * m < 2 ^ 31 by omega)), ck_t (ix_nI (show k < 122 by omega) (show 122 < 2 ^ 31 by decide)), a1, w, bnd_some, bnd_none, rmap_some, nm_eq, Sum.elim_inl, Sum.elim_inr, un2_mk, un3_mk, un4_mk, un5_mk, un6_mk, un7_mk, un8_mk, un9_mk, un10_mk, un11_mk, un12_mk, tf, ck_t (ix_nI (show 120 * f + k < 14400 by omega) (show 14400 < 2 ^ 31 by decide)), au1, nI_1]
        rfl
      · show upd g (120 * f + k) (tnv (D f k)) (120 * f + t) = _
        rw [upd_at]
        by_cases e : t = k
        · rw [if_pos (by rw [e]), e]
        · rw [if_neg (by omega)]; exact q1 t (by omega)
      · show upd g (120 * f + k) (tnv (D f k)) j = _
        rw [upd_at, if_neg (hj k hk)]; exact q2 j hj)
    (fun s hs => by
      obtain ⟨g, i⟩ := s
      obtain ⟨rfl, q⟩ := hs
      refine ⟨g, ?_, q⟩
      show X10_makes_L321 (nI m) (nI (E f)) enr far wh (nI f) g (nI (2 * m)) = _
      unfold X10_makes_L321
      rw [tm, if_pos (nI_le (Nat.le_refl _) (by omega))]) 0 (tu, 0) (by omega) ⟨rfl, fun t ht => by omega, fun _ _ => rfl⟩
  exact ⟨tu', h1, h2, h3⟩
theorem tab_ok {wh enr : Ar} {E : Nat → Nat} {D : Nat → Nat → Nat} {m : Nat} (hm : m ≤ 60) (hE : ∀ k, k < 2 * m → enr k = nI (E k) ∧ E k < 1200) (hD : ∀ f t, f < 2 * m → t < 2 * m → Dst wh (E f) (E t) (D f t)) (src : Int32) (far iw tu wa : Ar) :
    ∃ src' far' iw' tu' wa', whileV (fun s => X10_makes_L296 (nI m) enr wh s.1 s.2.1 s.2.2.1 s.2.2.2.1 s.2.2.2.2.1 s.2.2.2.2.2) (src, far, iw, tu, wa, 0) = some (src', far', iw', tu', wa') ∧ ∀ f t, f < 2 * m → t < 2 * m → tu' (120 * f + t) = tnv (D f t) := by
  have tm : (2 : Int32) * nI m = nI (2 * m) := pk_mul 2 m
  obtain ⟨⟨r1, r2, r3, r4, r5⟩, h1, h2⟩ := whileV_up (body := fun s => X10_makes_L296 (nI m) enr wh s.1 s.2.1 s.2.2.1 s.2.2.2.1 s.2.2.2.2.1 s.2.2.2.2.2) (2 * m)
    (fun k s => s.2.2.2.2.2 = nI k ∧ ∀ f t, f < k → t < 2 * m → s.2.2.2.1 (120 * f + t) = tnv (D f t))
    (fun r => ∀ f t, f < 2 * m → t < 2 * m → r.2.2.2.1 (120 * f + t) = tnv (D f t))
    (fun k s hk hs => by
      obtain ⟨src, far, iw, tu, wa, i⟩ := s
      obtain ⟨rfl, q⟩ := hs
      dsimp only at q
      left
      obtain ⟨e1, e2⟩ := hE k hk
      have a1 : ag enr (nI k) = nI (E k) := by rw [ag_nI (by omega), e1]
      obtain ⟨far', iw', wt', w1, L, w2, w3⟩ := reaches_ok e2 (wh := wh) src far iw wa
      obtain ⟨tu', x1, x2, x3⟩ := tab_row hm hE hD hk w2 w3 tu
      refine ⟨(nI (E k), far', iw', tu', wt', nI (k + 1)), ?_, rfl, fun f t hf ht => ?_⟩
      · show X10_makes_L296 (nI m) enr wh src far iw tu wa (nI k) = _
        unfold X10_makes_L296
        simp only [tm, if_neg (nI_ge hk (show 2 * m < 2 ^ 31 by omega)), ck_t (ix_nI (show k < 122 by omega) (show 122 < 2 ^ 31 by decide)), a1, w1, x1, bnd_some, bnd_none, rmap_some, nm_eq, Sum.elim_inl, Sum.elim_inr, un2_mk, un3_mk, un4_mk, un5_mk, un6_mk, un7_mk, un8_mk, un9_mk, un10_mk, un11_mk, un12_mk, nI_1]
      · show tu' (120 * f + t) = _
        by_cases e : f = k
        · rw [e]; exact x2 t ht
        · rw [x3 _ (fun t' ht' => by omega)]; exact q f t (by omega) ht)
    (fun s hs => by
      obtain ⟨src, far, iw, tu, wa, i⟩ := s
      obtain ⟨rfl, q⟩ := hs
      refine ⟨(src, far, iw, tu, wa), ?_, q⟩
      show X10_makes_L296 (nI m) enr wh src far iw tu wa (nI (2 * m)) = _
      unfold X10_makes_L296
      rw [tm, if_pos (nI_le (Nat.le_refl _) (by omega))]) 0 (src, far, iw, tu, wa, 0) (by omega) ⟨rfl, fun f t hf => by omega⟩
  exact ⟨r1, r2, r3, r4, r5, h1, h2⟩
/-- class and reference have the same rows -/
def RowsOK (kd nu en sq sta st : Ar) (n m : Nat) (ro enr rs str alr tu : Ar) (E : Nat → Nat) (D : Nat → Nat → Nat) : Prop :=
  m ≤ 60 ∧ (∀ t, t < 1200 → nu t = ro t ∧ ((kd t = 2 ∧ ∃ r, r < m ∧ ro t = nI r) ∨ (¬ kd t = 2 ∧ ro t = -1))) ∧ (∀ k, k < 2 * m → en k = nI (E k) ∧ enr k = nI (E k) ∧ E k < 1200 ∧ kd (E k) = 2) ∧ (∀ s, s < 1200 → kd s = 2 → st s = str s) ∧ LstR alr ro sq sta rs n m ∧
  ∀ f t, f < 2 * m → t < 2 * m → Dst kd (E f) (E t) (D f t) ∧ tu (120 * f + t) = tnv (D f t)
theorem Lst_mono {n : Nat} {F : Nat → Nat} {lt lt' : Nat → Nat → Prop} {P : Nat → Prop} (h : Lst n F lt P) (hl : ∀ s t, P s → P t → lt s t → lt' s t) : Lst n F lt' P :=
  ⟨h.1, fun i j hi hj => hl _ _ (h.1 i (by omega)) (h.1 j hj) (h.2.1 i j hi hj), h.2.2⟩
theorem ahd_congr {al al' : Ar} {s t : Nat} (h1 : al s = al' s) (h2 : al t = al' t) (h : ahd al s t) : ahd al' s t := by
  unfold ahd at *
  rw [← h1, ← h2]; exact h
theorem make_pair {kd nr wh : Ar} (hnr : NearOK kd nr) (hk : ∀ s, s < 1200 → kd s = wh s) {a b : Int32} (hab : slOK a b) {w : Nat} (hw : 1 ≤ w) (hw2 : w ≤ 400) {n : Nat} (hn : n = cnt (fun s => decide (kd s = 2)) 1200)
    (th sz : Int32) (al en nu so sp sq sta st ta : Ar) (hr hp rw' src : Int32) (alr enr far iw pl ro rs str tu wa : Ar) :
    (∃ m al' en' nu' so' sp' sq' sta' st' ta' src' alr' enr' far' iw' pl' ro' rs' str' tu' wa' E D, X6_make th sz al en (nI n) nu so sp sq sta st ta kd nr a b (nI w) = some (nI m, 1, nI m, al', en', nu', so', sp', sq', sta', st', ta') ∧
      X10_makes hr hp rw' src alr enr far iw pl ro rs str tu wa wh a b (nI w) = some (1, 1, 0, nI m, src', alr', enr', far', iw', pl', ro', rs', str', tu', wa') ∧ RowsOK kd nu' en' sq' sta' st' n m ro' enr' rs' str' alr' tu' E D) ∨
    (∃ al' en' nu' so' sp' sq' sta' st' ta' src' alr' enr' far' iw' pl' ro' rs' str' tu' wa', X6_make th sz al en (nI n) nu so sp sq sta st ta kd nr a b (nI w) = some (-1, 0, 0, al', en', nu', so', sp', sq', sta', st', ta') ∧
      X10_makes hr hp rw' src alr enr far iw pl ro rs str tu wa wh a b (nI w) = some (0, 0, 0, nI 60, src', alr', enr', far', iw', pl', ro', rs', str', tu', wa')) := by
  have n12 : n ≤ 1200 := by rw [hn]; exact cnt_le _ _
  have wi : 1 ≤ (nI w).toInt := by rw [ti_nI (by omega)]; omega
  obtain ⟨al1, nu1, so1, st1, F, g1, g2, g3, g4, g5⟩ := gather_ok kd a b hw hw2 al nu so st
  rw [← hn] at g4 g5
  obtain ⟨sp2, ta2, G1, s1, s2, s3⟩ := sort_ok (keys := al1) (key := fun s => kO (alV a b s)) n12 (fun s hs => by
    rw [(g3 s hs.1 hs.2).2]
    exact ⟨hs.1, kO_nI (alV_sml hab hs.1)⟩) g4 g5 sp ta
  obtain ⟨so3, ta3, G2, t1, t2, t3⟩ := sort_ok (keys := st1) (key := fun s => kO (stV a b (nI w) s)) n12 (fun s hs => by
    rw [(g3 s hs.1 hs.2).1]
    exact ⟨hs.1, kO_nI (stV_sml hab wi hs.1)⟩) s2 s3 so1 ta2
  obtain ⟨alr1, ro1, str1, r1, r2⟩ := ref_keys a b hw hw2 alr ro str
  have L : Lst n G2 (pre str1 alr1) (fun s => s < 1200 ∧ kd s = 2) := Lst_mono t3 (fun s t hs ht h => by
    have es := r2 s hs.1
    have et := r2 t ht.1
    unfold pre ahd
    rw [es.2.1, es.2.2, et.2.1, et.2.2]
    rcases h with h | ⟨h, h' | h'⟩
    · exact Or.inl ((kO_lt (stV_sml hab wi hs.1) (stV_sml hab wi ht.1)).mp h)
    · exact Or.inr ⟨(kO_eq (stV_sml hab wi hs.1) (stV_sml hab wi ht.1)).mp h, Or.inl ((kO_lt (alV_sml hab hs.1) (alV_sml hab ht.1)).mp h')⟩
    · exact Or.inr ⟨(kO_eq (stV_sml hab wi hs.1) (stV_sml hab wi ht.1)).mp h, Or.inr ⟨(kO_eq (alV_sml hab hs.1) (alV_sml hab ht.1)).mp h'.1, h'.2⟩⟩)
  obtain ⟨v4, x1, x2⟩ := next_ok alr1 ro1 str1 wh
  have hst : ∀ s, s < 1200 → kd s = 2 → st1 s = str1 s := fun s hs h2 => by rw [(g3 s hs h2).1, (r2 s hs).2.1]
  have hal : ∀ s, s < 1200 → kd s = 2 → al1 s = alr1 s := fun s hs h2 => by rw [(g3 s hs h2).2, (r2 s hs).2.2]
  have R0 : RowsAt wh str1 alr1 ro1 enr rs 0 := ⟨fun t ht => by
      by_cases c : wh t = 2
      · exact Or.inl ⟨c, Or.inr (r2 t ht).1⟩
      · exact Or.inr ⟨c, (r2 t ht).1⟩, fun s t hl hs => absurd (r2 s (by obtain ⟨⟨_, z⟩, _⟩ := hl; exact z.1)).1 hs, fun r hr => by omega⟩
  have S := sim hnr hk hst n12 t2 L n 0 0 nu1 sp2 ro1 enr rs pl v4 (by omega) (by omega) (fun t ht => by rw [g2 t ht, (r2 t ht).1]) R0 (fun j hj => by omega) x2
  rcases S with ⟨m, num', sp', ro', en', rs', pl', hm, i1, i2, i3, i4, i5⟩ | ⟨num', sp', ro', en', rs', pl', i1, i2⟩
  · left
    have i1' : whileV (fun s => X6_numberAll_L2 (nI n) so3 st1 kd nr s.1 s.2.1 s.2.2.1 s.2.2.2) (0, nu1, sp2, 0) = some (.inl (nI m, num', sp')) := i1
    have i2' : whileV (fun s => X10_makes_L104 alr1 str1 wh s.1 s.2.1 s.2.2.1 s.2.2.2.1 s.2.2.2.2.1 s.2.2.2.2.2) (0, enr, pl, ro1, rs, v4) = some (.inl (nI m, en', pl', ro', rs')) := i2
    obtain ⟨j1, j2, j3⟩ := i4
    have inn : ∀ s, s < 1200 ∧ kd s = 2 → ∃ r, r < m ∧ ro' s = nI r ∧ (ro' s).toNatClampNeg = r := fun s hs => by
      have ws : wh s = 2 := by rw [← hk s hs.1]; exact hs.2
      rcases j1 s hs.1 with ⟨_, ⟨r, q1, q2⟩ | q⟩ | ⟨q, _⟩
      · exact ⟨r, q1, q2, by rw [q2, nI_clamp (by omega)]⟩
      · exact absurd q (i5 s hs.1 ws)
      · exact absurd ws q
    obtain ⟨sq4, ta4, S, u1, u2, u3⟩ := sort_ok (keys := num') (key := fun s => (ro' s).toNatClampNeg + 1242) n12 (fun s hs => by
      obtain ⟨r, q1, q2, q3⟩ := inn s hs
      rw [i3 s hs.1, q3, q2]
      exact ⟨hs.1, nI_add r 1242, by omega⟩) t2 L sq ta3
    have hS : ∀ k, k < n → sq4 k = nI (S k) ∧ S k < 1200 ∧ kd (S k) = 2 ∧ ro' (S k) = nI ((fun k => (ro' (S k)).toNatClampNeg) k) ∧ (fun k => (ro' (S k)).toNatClampNeg) k < m := fun k hk => by
      have := u3.1 k hk
      obtain ⟨r, q1, q2, q3⟩ := inn _ this
      refine ⟨u2 k hk, this.1, this.2, ?_, ?_⟩
      · dsimp only; rw [q3]; exact q2
      · dsimp only; rw [q3]; exact q1
    have hR : ∀ i j, i < j → j < n → (fun k => (ro' (S k)).toNatClampNeg) i < (fun k => (ro' (S k)).toNatClampNeg) j ∨ ((fun k => (ro' (S k)).toNatClampNeg) i = (fun k => (ro' (S k)).toNatClampNeg) j ∧ ahd alr1 (S i) (S j)) := fun i j hi hj => by
      have a1 := hS i (by omega)
      have a2 := hS j hj
      rcases u3.2.1 i j hi hj with z | ⟨z, z'⟩
      · exact Or.inl (by dsimp only at z ⊢; omega)
      · have e : (ro' (S i)).toNatClampNeg = (ro' (S j)).toNatClampNeg := by dsimp only at z; omega
        refine Or.inr ⟨e, ?_⟩
        dsimp only at a1 a2
        obtain ⟨⟨e0, _, _, _, _, q4, _⟩, _⟩ := j3 _ a1.2.2.2.2
        have b1 := (q4 (S i) a1.2.1 a1.2.2.2.1).1
        have b2 := (q4 (S j) a2.2.1 (by rw [e]; exact a2.2.2.2.1)).1
        rcases z' with y | y
        · rw [b1, b2] at y; exact absurd y (irr32 _)
        · exact y.2
    obtain ⟨en5, sta5, v1, v2, v3⟩ := markEnds_ok (num := num') (al := al1) n12 hm (fun k hk => ⟨(hS k hk).1, (hS k hk).2.1, by rw [i3 _ (hS k hk).2.1]; exact (hS k hk).2.2.2.1, (hS k hk).2.2.2.2⟩) (fun i j hi hj => by
      rcases hR i j hi hj with z | ⟨z, z'⟩
      · exact Or.inl z
      · have a1 := hS i (by omega)
        have a2 := hS j hj
        exact Or.inr ⟨z, ahd_congr (hal _ a1.2.1 a1.2.2.1).symm (hal _ a2.2.1 a2.2.2.1).symm z'⟩) en sta
    have honto : ∀ t, t < 1200 → ∀ r, r < m → ro' t = nI r → ∃ k, k < n ∧ S k = t := fun t ht r hr e => by
      refine u3.2.2 t ⟨ht, ?_⟩
      rw [hk t ht]
      rcases j1 t ht with ⟨q, _⟩ | ⟨_, q⟩
      · exact q
      · rw [q] at e; exact absurd e.symm (nI_m1 (by omega))
    obtain ⟨y1, y2⟩ := ends_ok n12 hm hS hR hal honto j3 v2 v3
    obtain ⟨DD, hDD⟩ := dst_ex hnr
    have hE : ∀ k, k < 2 * m → en5 k = nI ((fun k => (en5 k).toNatClampNeg) k) ∧ en' k = nI ((fun k => (en5 k).toNatClampNeg) k) ∧ (fun k => (en5 k).toNatClampNeg) k < 1200 ∧ kd ((fun k => (en5 k).toNatClampNeg) k) = 2 := fun k hk => by
      obtain ⟨z1, e, z2, z3, z4⟩ := y1 k hk
      have : (en5 k).toNatClampNeg = e := by rw [z4, nI_clamp (by omega)]
      dsimp only
      rw [this, ← z1]
      exact ⟨z4, z4, z2, z3⟩
    have hD : ∀ f t, f < 2 * m → t < 2 * m → Dst kd ((fun k => (en5 k).toNatClampNeg) f) ((fun k => (en5 k).toNatClampNeg) t) ((fun f t => DD ((fun k => (en5 k).toNatClampNeg) f) ((fun k => (en5 k).toNatClampNeg) t)) f t) := fun f t hf ht =>
      hDD _ _ (hE f hf).2.2.1 (hE t ht).2.2.1 (by rw [(hE t ht).2.2.2]; decide)
    obtain ⟨src', far', iw', tu', wa', b1, b2⟩ := tab_ok (wh := wh) hm (fun k hk => ⟨(hE k hk).2.1, (hE k hk).2.2.1⟩) (fun f t hf ht => Dst_congr hk (hD f t hf ht)) src far iw tu wa
    refine ⟨m, al1, en5, num', so3, sp', sq4, sta5, st1, ta4, src', alr1, en', far', iw', pl', ro', rs', str1, tu', wa', fun k => (en5 k).toNatClampNeg, fun f t => DD ((fun k => (en5 k).toNatClampNeg) f) ((fun k => (en5 k).toNatClampNeg) t), ?_, ?_, hm, fun t ht => ⟨i3 t ht, ?_⟩, hE, hst, y2, fun f t hf ht => ⟨hD f t hf ht, b2 f t hf ht⟩⟩
    · unfold X6_make X6_numberAll
      simp only [g1, bnd_some, bnd_none, rmap_some, nm_eq, Sum.elim_inl, Sum.elim_inr, un2_mk, un3_mk, un4_mk, un5_mk, un6_mk, un7_mk, un8_mk, un9_mk, un10_mk, un11_mk, un12_mk, s1, t1, i1', ck_t (show bl 1 = true by decide), if_neg (show ¬ (1 : Int32) = 0 by decide), u1, v1]
    · unfold X10_makes
      simp only [r1, bnd_some, bnd_none, rmap_some, nm_eq, Sum.elim_inl, Sum.elim_inr, un2_mk, un3_mk, un4_mk, un5_mk, un6_mk, un7_mk, un8_mk, un9_mk, un10_mk, un11_mk, un12_mk, x1, i2', b1]
    · by_cases c : kd t = 2
      · obtain ⟨r, q1, q2, _⟩ := inn t ⟨ht, c⟩
        exact Or.inl ⟨c, r, q1, q2⟩
      · rcases j1 t ht with ⟨q, _⟩ | ⟨_, q⟩
        · exact absurd (by rw [hk t ht]; exact q) c
        · exact Or.inr ⟨c, q⟩
  · right
    have i1' : whileV (fun s => X6_numberAll_L2 (nI n) so3 st1 kd nr s.1 s.2.1 s.2.2.1 s.2.2.2) (0, nu1, sp2, 0) = some (.inr (nI 60, num', sp')) := i1
    have i2' : whileV (fun s => X10_makes_L104 alr1 str1 wh s.1 s.2.1 s.2.2.1 s.2.2.2.1 s.2.2.2.2.1 s.2.2.2.2.2) (0, enr, pl, ro1, rs, v4) = some (.inr (nI 60, en', pl', ro', rs')) := i2
    refine ⟨al1, en, num', so3, sp', sq, sta, st1, ta3, src, alr1, en', far, iw, pl', ro', rs', str1, tu, wa, ?_, ?_⟩
    · unfold X6_make X6_numberAll
      simp only [g1, bnd_some, bnd_none, rmap_some, nm_eq, Sum.elim_inl, Sum.elim_inr, un2_mk, un3_mk, un4_mk, un5_mk, un6_mk, un7_mk, un8_mk, un9_mk, un10_mk, un11_mk, un12_mk, s1, t1, i1', ck_t (show bl 0 = true by decide), if_true]
    · unfold X10_makes
      simp only [r1, bnd_some, bnd_none, rmap_some, nm_eq, Sum.elim_inl, Sum.elim_inr, un2_mk, un3_mk, un4_mk, un5_mk, un6_mk, un7_mk, un8_mk, un9_mk, un10_mk, un11_mk, un12_mk, x1, i2']
