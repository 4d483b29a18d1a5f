/-! along a row, either way -/
def dirL (al : Ar) (u : Bool) (s t : Nat) : Prop := if u = true then ahd al s t else ahd al t s
theorem dirL_irr (al : Ar) (u : Bool) (s : Nat) : ¬ dirL al u s s := by unfold dirL; split <;> exact ahd_irr al s
theorem dirL_tr {al : Ar} {u : Bool} {s t w : Nat} (h : dirL al u s t) (h2 : dirL al u t w) : dirL al u s w := by
  unfold dirL at *
  cases u
  · exact ahd_tr h2 h
  · exact ahd_tr h h2
theorem dirL_tri (al : Ar) (u : Bool) (s t : Nat) : dirL al u s t ∨ s = t ∨ dirL al u t s := by
  unfold dirL
  cases u
  · rcases ahd_tri al s t with h | h | h
    · exact Or.inr (Or.inr h)
    · exact Or.inr (Or.inl h)
    · exact Or.inl h
  · exact ahd_tri al s t
def uI (u : Bool) : Int32 := if u = true then 1 else 0
theorem ahead_dir (al : Ar) (u : Bool) {s t : Nat} (hs : s < 1200) (ht : t < 1200) : ∃ r, (u = true → X10_isAhead al (nI s) (nI t) = some r) ∧ (u = false → X10_isAhead al (nI t) (nI s) = some r) ∧ ((dirL al u s t ∧ r = 1) ∨ (¬ dirL al u s t ∧ r = 0)) := by
  cases u
  · rcases isAhead_ok al ht hs with ⟨a, b⟩ | ⟨a, b⟩
    · exact ⟨1, fun q => absurd q (by decide), fun _ => b, Or.inl ⟨a, rfl⟩⟩
    · exact ⟨0, fun q => absurd q (by decide), fun _ => b, Or.inr ⟨a, rfl⟩⟩
  · rcases isAhead_ok al hs ht with ⟨a, b⟩ | ⟨a, b⟩
    · exact ⟨1, fun _ => b, fun q => absurd q (by decide), Or.inl ⟨a, rfl⟩⟩
    · exact ⟨0, fun _ => b, fun q => absurd q (by decide), Or.inr ⟨a, rfl⟩⟩
/-- what may come next -/
def Cand (al ro : Ar) (u : Bool) (r : Int32) (bh : Option Nat) (t : Nat) : Prop := ro t = r ∧ ∀ b, bh = some b → dirL al u b t
def bI (bh : Option Nat) : Int32 := match bh with
  | none => -1
  | some b => nI b
theorem nextOf_ok (al ro : Ar) (u : Bool) (r : Int32) (bh : Option Nat) (hb : ∀ b, bh = some b → b < 1200) : ∃ v, X10_nextOf al ro r (bI bh) (uI u) = some v ∧ ((v = -1 ∧ ∀ t, t < 1200 → ¬ Cand al ro u r bh t) ∨ ∃ f, f < 1200 ∧ v = nI f ∧ Cand al ro u r bh f ∧ ∀ t, t < 1200 → Cand al ro u r bh t → t ≠ f → dirL al u f t) := by
  obtain ⟨v, h1, h2⟩ := whileV_up (body := fun s => X10_nextOf_L6 al ro r (bI bh) (uI u) s.1 s.2) 1200
    (fun k s => s.2 = nI k ∧ ((s.1 = -1 ∧ ∀ t, t < k → ¬ Cand al ro u r bh t) ∨ ∃ f, f < k ∧ s.1 = nI f ∧ Cand al ro u r bh f ∧ ∀ t, t < k → Cand al ro u r bh t → t ≠ f → dirL al u f t))
    (fun v => (v = -1 ∧ ∀ t, t < 1200 → ¬ Cand al ro u r bh t) ∨ ∃ f, f < 1200 ∧ v = nI f ∧ Cand al ro u r bh f ∧ ∀ t, t < 1200 → Cand al ro u r bh t → t ≠ f → dirL al u f t)
    (fun k s hk hs => by
      obtain ⟨v, i⟩ := s
      obtain ⟨rfl, q⟩ := hs
      dsimp only at q
      left
      have c0 : ¬ (1200 : Int32) ≤ nI k := nI_ge hk (by decide)
      have ic := ix_nI hk (show 1200 < 2 ^ 31 by decide)
      have a1 : ag ro (nI k) = ro k := ag_nI (by omega)
      have b97 : ∀ v : Int32, X10_nextOf_b6_97 r (bI bh) (uI u) v (nI k) = some (.inl (v, nI (k + 1))) := fun v => by unfold X10_nextOf_b6_97; rw [nm_eq, nI_1]
      have b93 : X10_nextOf_b6_93 r (bI bh) (uI u) (nI k) = some (.inl (nI k, nI (k + 1))) := b97 _
      have keep : ¬ Cand al ro u r bh k → X10_nextOf_L6 al ro r (bI bh) (uI u) v (nI k) = some (.inl (v, nI (k + 1))) → ∃ s' : Int32 × Int32, X10_nextOf_L6 al ro r (bI bh) (uI u) v (nI k) = some (.inl s') ∧ s'.2 = nI (k + 1) ∧ ((s'.1 = -1 ∧ ∀ t, t < k + 1 → ¬ Cand al ro u r bh t) ∨ ∃ f, f < k + 1 ∧ s'.1 = nI f ∧ Cand al ro u r bh f ∧ ∀ t, t < k + 1 → Cand al ro u r bh t → t ≠ f → dirL al u f t) := fun y1 y2 => by
        refine ⟨(v, nI (k + 1)), y2, rfl, ?_⟩
        rcases q with ⟨q1, q2⟩ | ⟨f, q1, q2, q3, q4⟩
        · refine Or.inl ⟨q1, fun t ht => ?_⟩
          by_cases e : t = k
          · rw [e]; exact y1
          · exact q2 t (by omega)
        · refine Or.inr ⟨f, by omega, q2, q3, fun t ht hc hf => ?_⟩
          by_cases e : t = k
          · rw [e] at hc; exact absurd hc y1
          · exact q4 t (by omega) hc hf
      -- a candidate: is it better
      have take : Cand al ro u r bh k → X10_nextOf_L6 al ro r (bI bh) (uI u) v (nI k) = X10_nextOf_b6_59 al r (bI bh) (uI u) v (nI k) → ∃ s' : Int32 × Int32, X10_nextOf_L6 al ro r (bI bh) (uI u) v (nI k) = some (.inl s') ∧ s'.2 = nI (k + 1) ∧ ((s'.1 = -1 ∧ ∀ t, t < k + 1 → ¬ Cand al ro u r bh t) ∨ ∃ f, f < k + 1 ∧ s'.1 = nI f ∧ Cand al ro u r bh f ∧ ∀ t, t < k + 1 → Cand al ro u r bh t → t ≠ f → dirL al u f t) := fun y1 y2 => by
        rw [y2]
        rcases q with ⟨rfl, q2⟩ | ⟨f, q1, rfl, q3, q4⟩
        · refine ⟨(nI k, nI (k + 1)), ?_, rfl, Or.inr ⟨k, by omega, rfl, y1, fun t ht hc hf => absurd hc (q2 t (by omega))⟩⟩
          unfold X10_nextOf_b6_59
          rw [if_pos (by decide), b93]
        · obtain ⟨x, x1, x2, x3⟩ := ahead_dir al u hk (show f < 1200 by omega)
          have body : X10_nextOf_b6_59 al r (bI bh) (uI u) (nI f) (nI k) = if x = 0 then some (.inl (nI f, nI (k + 1))) else some (.inl (nI k, nI (k + 1))) := by
            unfold X10_nextOf_b6_59
            rw [if_neg (show ¬ nI f < 0 from nI_nlt (Nat.zero_le _) (by omega))]
            cases u
            · rw [if_pos (show uI false = 0 from rfl), x2 rfl, bnd_some, b97, b93]
            · rw [if_neg (show ¬ uI true = 0 by decide), x1 rfl, bnd_some, b97, b93]
          rcases x3 with ⟨z1, rfl⟩ | ⟨z1, rfl⟩
          · refine ⟨(nI k, nI (k + 1)), by rw [body, if_neg (by decide)], rfl, Or.inr ⟨k, by omega, rfl, y1, fun t ht hc hf => ?_⟩⟩
            by_cases e : t = f
            · rw [e]; exact z1
            · exact dirL_tr z1 (q4 t (by omega) hc e)
          · refine ⟨(nI f, nI (k + 1)), by rw [body, if_pos rfl], rfl, Or.inr ⟨f, by omega, rfl, q3, fun t ht hc hf => ?_⟩⟩
            by_cases e : t = k
            · rcases dirL_tri al u k f with g | g | g
              · exact absurd g z1
              · omega
              · rw [e]; exact g
            · exact q4 t (by omega) hc hf
      by_cases cr : ro k = r
      · cases bh with
        | none =>
          refine take ⟨cr, fun b hb => nomatch hb⟩ ?_
          unfold X10_nextOf_L6
          rw [if_neg c0, ck_t ic, a1, if_pos cr, if_pos (show bI none < 0 by decide)]
        | some b =>
          have hb' := hb b rfl
          obtain ⟨x, x1, x2, x3⟩ := ahead_dir al u hb' hk
          have body : X10_nextOf_L6 al ro r (bI (some b)) (uI u) v (nI k) = if x = 0 then X10_nextOf_b6_97 r (bI (some b)) (uI u) v (nI k) else X10_nextOf_b6_59 al r (bI (some b)) (uI u) v (nI k) := by
            unfold X10_nextOf_L6
            rw [if_neg c0, ck_t ic, a1, if_pos cr, if_neg (show ¬ bI (some b) < 0 from nI_nlt (Nat.zero_le b) (by omega))]
            cases u
            · rw [if_pos (show uI false = 0 from rfl), show bI (some b) = nI b from rfl, x2 rfl, bnd_some]
            · rw [if_neg (show ¬ uI true = 0 by decide), show bI (some b) = nI b from rfl, x1 rfl, bnd_some]
          rcases x3 with ⟨z1, rfl⟩ | ⟨z1, rfl⟩
          · refine take ⟨cr, fun b' hb' => ?_⟩ (by rw [body, if_neg (by decide)])
            rw [← Option.some.inj hb']; exact z1
          · refine keep (fun q => z1 (q.2 b rfl)) (by rw [body, if_pos rfl, b97])
      · refine keep (fun q => cr q.1) ?_
        unfold X10_nextOf_L6
        rw [if_neg c0, ck_t ic, a1, if_neg cr, b97])
    (fun s hs => by
      obtain ⟨v, i⟩ := s
      obtain ⟨rfl, q⟩ := hs
      refine ⟨v, ?_, q⟩
      show X10_nextOf_L6 al ro r (bI bh) (uI u) v (nI 1200) = _
      unfold X10_nextOf_L6
      rw [if_pos (show (1200 : Int32) ≤ nI 1200 from nI_le (a := 1200) (Nat.le_refl _) (by decide))]) 0 (-1, 0) (by omega) ⟨rfl, Or.inl ⟨rfl, fun t ht => by omega⟩⟩
  refine ⟨v, ?_, h2⟩
  unfold X10_nextOf
  rw [h1, bnd_some]
/-- the next in a listing -/
theorem next_Lst {al ro : Ar} {u : Bool} {r : Int32} {z : Nat} {M : Nat → Nat} (hM : Lst z M (dirL al u) (fun t => t < 1200 ∧ ro t = r)) : (∀ i, i < z → X10_nextOf al ro r (nI (M i)) (uI u) = some (if i + 1 < z then nI (M (i + 1)) else -1)) ∧ X10_nextOf al ro r (-1) (uI u) = some (if 0 < z then nI (M 0) else -1) := by
  obtain ⟨m1, m2, m3⟩ := hM
  have gen : ∀ (bh : Option Nat) (i : Nat), (∀ b, bh = some b → b < 1200) → (∀ j, j < z → (Cand al ro u r bh (M j) ↔ i ≤ j)) → X10_nextOf al ro r (bI bh) (uI u) = some (if i < z then nI (M i) else -1) := by
    intro bh i hb hc
    obtain ⟨v, v1, ⟨rfl, v2⟩ | ⟨f, f1, rfl, f2, f3⟩⟩ := nextOf_ok al ro u r bh hb
    · rw [v1]
      by_cases c : i < z
      · exact absurd ((hc i c).mpr (Nat.le_refl _)) (v2 _ (m1 i c).1)
      · rw [if_neg c]
    · obtain ⟨j, j1, rfl⟩ := m3 f ⟨f1, f2.1⟩
      have ij := (hc j j1).mp f2
      rw [v1, if_pos (by omega)]
      by_cases e : i = j
      · rw [e]
      · exfalso
        have a := m2 i j (by omega) j1
        have b := f3 (M i) (m1 i (by omega)).1 ((hc i (by omega)).mpr (Nat.le_refl _)) (fun q => by rw [q] at a; exact dirL_irr _ _ _ a)
        exact dirL_irr _ _ _ (dirL_tr a b)
  refine ⟨fun i hi => ?_, ?_⟩
  · have := gen (some (M i)) (i + 1) (fun b hb => by rw [← Option.some.inj hb]; exact (m1 i hi).1) (fun j hj => ⟨fun q => ?_, fun q => ⟨(m1 j hj).2, fun b hb => ?_⟩⟩)
    · exact this
    · have a := q.2 (M i) rfl
      rcases Nat.lt_trichotomy i j with y | y | y
      · exact y
      · rw [y] at a; exact absurd a (dirL_irr _ _ _)
      · exact absurd (dirL_tr a (m2 j i y hi)) (dirL_irr _ _ _)
    · rw [← Option.some.inj hb]; exact m2 i j (by omega) hj
  · exact gen none 0 (fun b hb => nomatch hb) (fun j hj => ⟨fun _ => Nat.zero_le _, fun _ => ⟨(m1 j hj).2, fun b hb => nomatch hb⟩⟩)
theorem row_sim {crop bear Y B al ro sq pl : Ar} {cap wt un : Int32} {u : Bool} {a z k q : Nat} {M : Nat → Nat} (hk : k < 60) (hpl : pl k = nI q) (hq : q < 120) (hY : ∀ s, s < 1200 → crop s = Y s) (hB : ∀ s, s < 1200 → bear s = B s) (hz : 0 < z) (haz : a + z ≤ 1200) (hM : Lst z M (dirL al u) (fun t => t < 1200 ∧ ro t = nI (q / 2)))
    (hsq : ∀ i, i < z → sq (if u = true then a + i else a + (z - 1 - i)) = nI (M i)) :
    ∀ d i c find plc bk seen wag, i + d = z → c + d ≤ 1200 → RS find plc bk seen wag c →
    ∃ find' plc' bk' seen' wag', whileV (fun s => X4_workRow_L24 cap wt un sq bear crop (uI u) (nI a) (nI (a + z - 1)) s.1 s.2.1 s.2.2) (find, plc, nI (a + i)) = some (find', plc') ∧ whileV (fun s => X10_run_L102 cap wt un al B pl ro Y (nI k) (uI u) s.1 s.2.1 s.2.2.1 s.2.2.2) (bk, seen, wag, if i < z then nI (M i) else -1) = some (bk', seen', wag') ∧ RS find' plc' bk' seen' wag' (c + d) := by
  intro d
  induction d with
  | zero =>
    intro i c find plc bk seen wag hd hc h
    refine ⟨find, plc, bk, seen, wag, whileV_end ?_, whileV_end ?_, h⟩
    · show X4_workRow_L24 cap wt un sq bear crop (uI u) (nI a) (nI (a + z - 1)) find plc (nI (a + i)) = _
      unfold X4_workRow_L24
      rw [if_pos (nI_lt (by omega) (by omega))]
    · show X10_run_L102 cap wt un al B pl ro Y (nI k) (uI u) bk seen wag (if i < z then nI (M i) else -1) = _
      unfold X10_run_L102
      rw [if_neg (show ¬ i < z by omega), if_pos (by decide)]
  | succ d ih =>
    intro i c find plc bk seen wag hd hc h
    have iz : i < z := by omega
    have mi := (hM.1 i iz).1
    obtain ⟨find1, plc1, bk1, seen1, wag1, x1, x2, x3⟩ := square_ok (cap := cap) (wt := wt) (un := un) mi (hY _ mi) (hB _ mi) h (by omega)
    obtain ⟨find2, plc2, bk2, seen2, wag2, y1, y2, y3⟩ := ih (i + 1) (c + 1) find1 plc1 bk1 seen1 wag1 (by omega) (by omega) x3
    refine ⟨find2, plc2, bk2, seen2, wag2, whileV_to (s' := (find1, plc1, nI (a + (i + 1)))) ?_ y1, whileV_to (s' := (bk1, seen1, wag1, if i + 1 < z then nI (M (i + 1)) else -1)) ?_ y2, by rw [show c + (d + 1) = c + 1 + d by omega]; exact y3⟩
    · show X4_workRow_L24 cap wt un sq bear crop (uI u) (nI a) (nI (a + z - 1)) find plc (nI (a + i)) = _
      have idx := hsq i iz
      unfold X4_workRow_L24 X4_workRow_b24_53
      rw [if_neg (nI_nlt (by omega) (by omega))]
      cases u
      · rw [if_neg (by decide)] at idx
        have e : nI a + nI (a + z - 1) - nI (a + i) = nI (a + (z - 1 - i)) := by
          rw [nI_add, pk_sub (by omega)]
          exact congrArg nI (by omega)
        rw [if_pos (show uI false = 0 from rfl), e, ck_t (ix_nI (show a + (z - 1 - i) < 1200 by omega) (by decide)), ag_nI (by omega), idx, x1, bnd_some, un2_mk, nm_eq, nI_1]
        rfl
      · rw [if_pos rfl] at idx
        rw [if_neg (show ¬ uI true = 0 by decide), ck_t (ix_nI (show a + i < 1200 by omega) (by decide)), ag_nI (by omega), idx, x1, bnd_some, un2_mk, nm_eq, nI_1]
        rfl
    · show X10_run_L102 cap wt un al B pl ro Y (nI k) (uI u) bk seen wag (if i < z then nI (M i) else -1) = _
      have ak : ag pl (nI k) = nI q := by rw [ag_nI (by omega), hpl]
      unfold X10_run_L102
      rw [if_pos iz, if_neg (show ¬ nI (M i) < 0 from nI_nlt (Nat.zero_le _) (by omega)), x2, bnd_some, un3_mk, ck_t (ix_nI hk (by decide)), ak, div2 (by omega), (next_Lst hM).1 i iz, bnd_some]
theorem run_sim {crop bear Y B al ro sq sta rs pn pl : Ar} {cap wt un : Int32} {n m : Nat} {P : Nat → Nat} (hm : m ≤ 60) (hn : n ≤ 1200) (hL : LstR al ro sq sta rs n m) (hP : PlOK pn P m) (hQ : PlOK pl P m) (hD : RowD P m) (hY : ∀ s, s < 1200 → crop s = Y s) (hB : ∀ s, s < 1200 → bear s = B s) (v3 : Int32) :
    ∀ d k c find plc bk seen wag (q : Nat → Bool), k + d = m → cnt q 1200 = c → (∀ t, t < 1200 → q t = true → ∃ i, i < k ∧ ro t = nI (P i / 2)) → RS find plc bk seen wag c →
    ∃ find' plc' bk' seen' wag' c', whileV (fun s => X4_work_L11 (nI m) cap wt un pn sq sta bear crop v3 s.1 s.2.1 s.2.2) (find, plc, nI k) = some (find', plc') ∧ whileV (fun s => X10_run_L62 (nI m) cap wt un al B pl ro Y s.1 s.2.1 s.2.2.1 s.2.2.2) (bk, seen, wag, nI k) = some (bk', seen', wag') ∧ RS find' plc' bk' seen' wag' c' ∧ c' ≤ 1200 := by
  obtain ⟨S, p, l1, l2, l3, l4, l5⟩ := hL
  intro d
  induction d with
  | zero =>
    intro k c find plc bk seen wag q hd hc hq h
    have ek : k = m := by omega
    subst ek
    refine ⟨find, plc, bk, seen, wag, c, whileV_end ?_, whileV_end ?_, h, by rw [← hc]; exact cnt_le _ _⟩
    · show X4_work_L11 (nI k) cap wt un pn sq sta bear crop v3 find plc (nI k) = _
      unfold X4_work_L11
      rw [if_pos (nI_le (Nat.le_refl _) (by omega))]
    · show X10_run_L62 (nI k) cap wt un al B pl ro Y bk seen wag (nI k) = _
      unfold X10_run_L62
      rw [if_pos (nI_le (Nat.le_refl _) (by omega))]
  | succ d ih =>
    intro k c find plc bk seen wag q hd hc hq h
    have km : k < m := by omega
    obtain ⟨p1, p2⟩ := hP k km
    obtain ⟨q1, _⟩ := hQ k km
    obtain ⟨r1, r2, r3, r4⟩ := l5 (P k / 2) (by omega)
    obtain ⟨z, hz⟩ : ∃ z, p (P k / 2 + 1) = p (P k / 2) + z := ⟨p (P k / 2 + 1) - p (P k / 2), by omega⟩
    rw [hz, show p (P k / 2) + z - p (P k / 2) = z by omega] at r4
    obtain ⟨a, ha⟩ : ∃ a, a = p (P k / 2) := ⟨_, rfl⟩
    rw [← ha] at hz r4 r1
    have z0 : 0 < z := by omega
    have cz : cnt (fun t => decide (ro t = nI (P k / 2))) 1200 = z := Lst_cnt r4 (ahd_irr al) (fun s => by rw [decide_eq_true_eq])
    have cq : cnt (fun t => q t || decide (ro t = nI (P k / 2))) 1200 = c + z := by
      rw [← hc, ← cz]
      refine cnt_add (fun t ht => ⟨by rw [Bool.or_eq_true], fun ⟨w1, w2⟩ => ?_⟩)
      obtain ⟨i, i1, i2⟩ := hq t ht w1
      have w2 : ro t = nI (P k / 2) := of_decide_eq_true w2
      have pi := (hP i (by omega)).2
      rw [w2] at i2
      exact hD i k i1 km ((nI_eq (by omega) (by omega)).mp i2).symm
    have cl : c + z ≤ 1200 := by rw [← cq]; exact cnt_le _ _
    -- the way through the row
    obtain ⟨u, hu⟩ : ∃ u : Bool, u = decide (P k % 2 = 0) := ⟨_, rfl⟩
    have hM : Lst z (fun i => if u = true then S (a + i) else S (a + (z - 1 - i))) (dirL al u) (fun t => t < 1200 ∧ ro t = nI (P k / 2)) := by
      obtain ⟨m1, m2, m3⟩ := r4
      dsimp only at m1 m2 m3
      cases u
      · refine ⟨fun i hi => m1 _ (by omega), fun i j hij hj => ?_, fun s hs => ?_⟩
        · exact m2 (z - 1 - j) (z - 1 - i) (by omega) (by omega)
        · obtain ⟨i, i1, i2⟩ := m3 s hs
          refine ⟨z - 1 - i, by omega, ?_⟩
          show S (a + (z - 1 - (z - 1 - i))) = s
          rw [show z - 1 - (z - 1 - i) = i by omega]; exact i2
      · exact ⟨m1, m2, m3⟩
    have hsq : ∀ i, i < z → sq (if u = true then a + i else a + (z - 1 - i)) = nI ((fun i => if u = true then S (a + i) else S (a + (z - 1 - i))) i) := fun i hi => by
      cases u
      · exact l1 (a + (z - 1 - i)) (by omega)
      · exact l1 (a + i) (by omega)
    obtain ⟨find1, plc1, bk1, seen1, wag1, x1, x2, x3⟩ := row_sim (crop := crop) (bear := bear) (Y := Y) (B := B) (cap := cap) (wt := wt) (un := un) (show k < 60 by omega) q1 (show P k < 120 by omega) hY hB z0 (by omega) hM hsq z 0 c find plc bk seen wag (by omega) cl h
    obtain ⟨find2, plc2, bk2, seen2, wag2, c2, y1, y2, y3⟩ := ih (k + 1) (c + z) find1 plc1 bk1 seen1 wag1 (fun t => q t || decide (ro t = nI (P k / 2))) (by omega) cq (fun t ht w => by
      rw [Bool.or_eq_true] at w
      rcases w with w | w
      · obtain ⟨i, i1, i2⟩ := hq t ht w
        exact ⟨i, by omega, i2⟩
      · exact ⟨k, by omega, of_decide_eq_true w⟩) x3
    have pr : ∀ x : Int32, nI (P k) - nI (P k) / 2 * 2 = nI (P k % 2) := fun _ => pk_rem (d := 2) (by omega) (by decide) (by decide)
    have par : nI (P k) - nI (P k) / 2 * 2 = nI (P k % 2) := pr 0
    refine ⟨find2, plc2, bk2, seen2, wag2, c2, whileV_to (s' := (find1, plc1, nI (k + 1))) ?_ y1, whileV_to (s' := (bk1, seen1, wag1, nI (k + 1))) ?_ y2, y3⟩
    · show X4_work_L11 (nI m) cap wt un pn sq sta bear crop v3 find plc (nI k) = _
      have ak : ag pn (nI k) = nI (P k) := by rw [ag_nI (by omega), p1]
      have s1 : sta (P k / 2) = nI a := by rw [l2 _ (by omega), ha]
      have s2 : sta (P k / 2 + 1) = nI (a + z) := by rw [l2 _ (by omega), hz]
      have row : X4_workRow cap wt un sq sta bear crop find plc (nI (P k / 2)) (uI u) = some (find1, plc1) := by
        have x1' : whileV (fun s => X4_workRow_L24 cap wt un sq bear crop (uI u) (nI a) (nI (a + z - 1)) s.1 s.2.1 s.2.2) (find, plc, nI a) = some (find1, plc1) := x1
        have e : nI (a + z) - 1 = nI (a + z - 1) := pk_sub (b := 1) (by omega)
        unfold X4_workRow
        rw [ck_t (ix_nI (show P k / 2 < 61 by omega) (by decide)), nm_eq, nI_1, ck_t (ix_nI (show P k / 2 + 1 < 61 by omega) (by decide)), nm_eq, ag_nI (by omega), ag_nI (by omega), s1, s2, e, x1', bnd_some, un2_mk]
      unfold X4_work_L11 X4_work_b11_48
      rw [if_neg (nI_ge km (by omega)), ck_t (ix_nI (show k < 60 by omega) (by decide)), ck_t (ix_nI (show k < 60 by omega) (by decide)), ak, par, div2 (by omega)]
      by_cases c1 : P k % 2 = 0
      · rw [decide_eq_true c1] at hu
        rw [hu] at row
        have row' : X4_workRow cap wt un sq sta bear crop find plc (nI (P k / 2)) 1 = some (find1, plc1) := row
        rw [c1, if_pos (show nI 0 = 0 from rfl), row', bnd_some, un2_mk, nm_eq, nI_1]
      · rw [decide_eq_false c1] at hu
        rw [hu] at row
        have row' : X4_workRow cap wt un sq sta bear crop find plc (nI (P k / 2)) 0 = some (find1, plc1) := row
        rw [show P k % 2 = 1 by omega, if_neg (show ¬ nI 1 = 0 by decide), row', bnd_some, un2_mk, nm_eq, nI_1]
    · show X10_run_L62 (nI m) cap wt un al B pl ro Y bk seen wag (nI k) = _
      have ak : ag pl (nI k) = nI (P k) := by rw [ag_nI (by omega), q1]
      have nx := (next_Lst hM).2
      have row : X10_run_b62_86 cap wt un bk al B pl ro seen wag Y (nI k) (uI u) = some (.inl (bk1, seen1, wag1, nI (k + 1))) := by
        unfold X10_run_b62_86
        rw [ck_t (ix_nI (show k < 60 by omega) (by decide)), ak, div2 (by omega), nx, bnd_some, x2, bnd_some, un3_mk, nm_eq, nI_1]
      unfold X10_run_L62
      rw [if_neg (nI_ge km (by omega)), ck_t (ix_nI (show k < 60 by omega) (by decide)), ak, par]
      by_cases c1 : P k % 2 = 0
      · rw [decide_eq_true c1] at hu
        rw [hu] at row
        have row' : X10_run_b62_86 cap wt un bk al B pl ro seen wag Y (nI k) 1 = _ := row
        rw [c1, if_pos (show nI 0 = 0 from rfl), row']
      · rw [decide_eq_false c1] at hu
        rw [hu] at row
        have row' : X10_run_b62_86 cap wt un bk al B pl ro seen wag Y (nI k) 0 = _ := row
        rw [show P k % 2 = 1 by omega, if_neg (show ¬ nI 1 = 0 by decide), row']
theorem run_ok {crop bear Y B al ro sq sta rs pn pl find plc seen wag tu : Ar} {cap wt un bk : Int32} {n m : Nat} {P : Nat → Nat} {D : Nat → Nat → Nat} (hm : m ≤ 60) (hn : n ≤ 1200) (hL : LstR al ro sq sta rs n m) (hP : PlOK pn P m) (hQ : PlOK pl P m) (hD : RowD P m) (hY : ∀ s, s < 1200 → crop s = Y s) (hB : ∀ s, s < 1200 → bear s = B s) (ht : TurOK tu D m) (hb : DB D m) (hs : sP D P m < 1000000) :
    ∃ v find' plc' bk' seen' wag', X4_work (nI m) cap wt un pn sq sta bear crop find plc (nI (sP D P m)) = some (v, find', plc') ∧ X10_run_b25 0 (nI m) cap wt un bk al B pl ro seen tu wag Y 0 = some (v, 0, bk', seen', wag') ∧ (∀ j, j < 8 → find' j = seen' j) ∧ ∃ w, w ≤ 1200 ∧ find' 4 = nI w ∧ ∀ k, k < w → plc' k = wag' k := by
  obtain ⟨f0, a1, a2⟩ := fill_ok 8 (by decide) find 0
  obtain ⟨s0, b1, b2⟩ := whileV_up (body := fun s => X10_run_L36 s.1 s.2) 8
    (fun k s => s.2 = nI k ∧ ∀ j, j < k → s.1 j = 0) (fun r => ∀ j, j < 8 → r j = 0)
    (fun k s hk hs => by
      obtain ⟨g, i⟩ := s
      obtain ⟨rfl, q⟩ := hs
      dsimp only at q
      left
      have au1 : au g (nI k) 0 = upd g k 0 := au_nI (by omega)
      refine ⟨(upd g k 0, nI (k + 1)), ?_, rfl, fun j hj => ?_⟩
      · show X10_run_L36 g (nI k) = _
        unfold X10_run_L36
        rw [if_neg (show ¬ (8 : Int32) ≤ nI k from nI_ge (b := 8) hk (by decide)), ck_t (ix_nI hk (by decide)), nm_eq, nm_eq, au1, nI_1]
      · show upd g k 0 j = 0
        rw [upd_at]
        by_cases e : j = k
        · rw [if_pos e]
        · rw [if_neg e]; exact q j (by omega))
    (fun s hs => by
      obtain ⟨g, i⟩ := s
      obtain ⟨rfl, q⟩ := hs
      refine ⟨g, ?_, q⟩
      show X10_run_L36 g (nI 8) = _
      unfold X10_run_L36
      rw [if_pos (show (8 : Int32) ≤ nI 8 by decide)]) 0 (seen, 0) (by omega) ⟨rfl, fun j hj => by omega⟩
  have z : ∀ j, j < 8 → f0 j = 0 := fun j hj => by rw [a2 j, if_pos hj]
  have R0 : RS f0 plc 0 s0 wag 0 := ⟨by rw [z 0 (by decide), b2 0 (by decide)], by rw [z 1 (by decide), b2 1 (by decide)], by rw [z 2 (by decide), b2 2 (by decide)], z 3 (by decide), by rw [z 4 (by decide), b2 4 (by decide)], by rw [z 5 (by decide), b2 5 (by decide)], by rw [z 6 (by decide), b2 6 (by decide)], by rw [z 7 (by decide), b2 7 (by decide)], 0, Nat.le_refl _, z 4 (by decide), fun i hi => by omega⟩
  have c0 : cnt (fun _ => false) 1200 = 0 := by
    rcases Nat.eq_zero_or_pos (cnt (fun _ => false) 1200) with q | q
    · exact q
    · obtain ⟨k, _, k2⟩ := cnt_ex q
      exact absurd k2 (by decide)
  obtain ⟨f1, p1, bk1, s1, w1, c1, x1, x2, x3, x4⟩ := run_sim (cap := cap) (wt := wt) (un := un) hm hn hL hP hQ hD hY hB (nI (sP D P m)) m 0 0 f0 plc 0 s0 wag (fun _ => false) (by omega) c0 (fun t _ q => absurd q (by decide)) R0
  have x1' : whileV (fun s => X4_work_L11 (nI m) cap wt un pn sq sta bear crop (nI (sP D P m)) s.1 s.2.1 s.2.2) (f0, plc, 0) = some (f1, p1) := x1
  have x2' : whileV (fun s => X10_run_L62 (nI m) cap wt un al B pl ro Y s.1 s.2.1 s.2.2.1 s.2.2.2) (0, s0, wag, 0) = some (bk1, s1, w1) := x2
  have SR := sumR_ok ht hb hm hQ
  unfold svR at SR
  rw [if_pos hs] at SR
  obtain ⟨h0, h1, h2, h3, h4, h5, h6, h7, w, hw1, hw2, hw3⟩ := x3
  have e (f : Ar) (k j : Nat) (x : Int32) (h : j ≠ k) : upd f k x j = f j := by rw [upd_at, if_neg h]
  have es (f : Ar) (k : Nat) (x : Int32) : upd f k x k = x := by rw [upd_at, if_pos rfl]
  refine ⟨f1 0 + nI (sP D P m), upd f1 0 (f1 0 + nI (sP D P m)), p1, bk1, upd (upd s1 0 (s1 0 + nI (sP D P m))) 3 bk1, w1, ?_, ?_, fun j hj => ?_, w, by omega, by rw [e _ 0 4 _ (by decide)]; exact hw2, hw3⟩
  · unfold X4_work
    simp only [a1, x1', bnd_some, bnd_none, rmap_some, nm_eq, Sum.elim_inl, Sum.elim_inr, un2_mk, un3_mk, un4_mk, un5_mk, un6_mk, un7_mk, un8_mk, un9_mk, un10_mk, un11_mk, un12_mk, ck_t (show ix 0 8 = true by decide)]
    rfl
  · have th : X10_throwsIf 0 0 1 = some (0, 0) := rfl
    unfold X10_run_b25
    simp only [th, bnd_some, bnd_none, rmap_some, nm_eq, Sum.elim_inl, Sum.elim_inr, un2_mk, un3_mk, un4_mk, un5_mk, un6_mk, un7_mk, un8_mk, un9_mk, un10_mk, un11_mk, un12_mk, if_true, b1, x2', SR, ck_t (show ix 0 8 = true by decide), ck_t (show ix 3 8 = true by decide), h0]
    rfl
  · rcases (show j = 0 ∨ j = 1 ∨ j = 2 ∨ j = 3 ∨ j = 4 ∨ j = 5 ∨ j = 6 ∨ j = 7 by omega) with rfl | rfl | rfl | rfl | rfl | rfl | rfl | rfl
    · rw [es, e _ 3 0 _ (by decide), es, h0]
    · rw [e _ 0 1 _ (by decide), e _ 3 1 _ (by decide), e _ 0 1 _ (by decide), h1]
    · rw [e _ 0 2 _ (by decide), e _ 3 2 _ (by decide), e _ 0 2 _ (by decide), h2]
    · rw [e _ 0 3 _ (by decide), es, h3]
    · rw [e _ 0 4 _ (by decide), e _ 3 4 _ (by decide), e _ 0 4 _ (by decide), h4]
    · rw [e _ 0 5 _ (by decide), e _ 3 5 _ (by decide), e _ 0 5 _ (by decide), h5]
    · rw [e _ 0 6 _ (by decide), e _ 3 6 _ (by decide), e _ 0 6 _ (by decide), h6]
    · rw [e _ 0 7 _ (by decide), e _ 3 7 _ (by decide), e _ 0 7 _ (by decide), h7]
