def cX (s : Nat) : Int := ((s % 40 : Nat) : Int)
def cY (s : Nat) : Int := ((s / 40 : Nat) : Int)
theorem cXf (s : Nat) : 0 ≤ cX s ∧ cX s < 40 ∧ 0 ≤ cY s ∧ 40 * cY s + cX s = s := by unfold cX cY; omega
theorem cX_of {x y : Int} (h : inL x y) : cX (40 * y + x).toNat = x ∧ cY (40 * y + x).toNat = y ∧ (40 * y + x).toNat < 1200 := by
  have := cXf (40 * y + x).toNat
  omega
theorem ev_upd {g : Nat → Nat} {k v : Nat} {x y : Int} (h : inL x y → (40 * y + x).toNat ≠ k) : ev (fun t => if t = k then v else g t) x y = ev g x y := by
  unfold ev
  by_cases c : inL x y
  · rw [if_pos c, if_pos c]; dsimp only; rw [if_neg (h c)]
  · rw [if_neg c, if_neg c]
theorem ev_at {g : Nat → Nat} {x y : Int} (h : inL x y) : ev g x y = g (40 * y + x).toNat := by unfold ev; rw [if_pos h]
theorem nearO_up {O : Nat → Prop} {h : Nat} {x y x' y' : Int} (a1 : x - 1 ≤ x') (a2 : x' ≤ x + 1) (a3 : y - 1 ≤ y') (a4 : y' ≤ y + 1) (n : nearO O h x' y') : nearO O (h + 1) x y := by
  obtain ⟨i, j, b1, b2, b3, b4, b5⟩ := n
  exact ⟨i, j, by omega, by omega, by omega, by omega, b5⟩
theorem nearO_ev {O : Nat → Prop} {g : Nat → Nat} {h : Nat} {x y : Int} (hg : ∀ i j : Int, inL i j → i = x → j = y → ∀ h, g (40 * j + i).toNat ≤ h → nearO O h i j) (he : ev g x y ≤ h) : nearO O h x y := by
  by_cases c : inL x y
  · rw [ev_at c] at he
    exact hg x y c rfl rfl h he
  · exact ⟨x, y, by omega, by omega, by omega, by omega, fun q => absurd q c⟩
theorem min_le4 {a b c d h : Nat} (q : min (min (min a b) c) d ≤ h) : a ≤ h ∨ b ≤ h ∨ c ≤ h ∨ d ≤ h := by omega
theorem one_nI (n : Nat) : (1 : Int32) + nI n = nI (1 + n) := nI_add 1 n
theorem sound1 (kd dep : Ar) : ∃ dep1 : Ar, whileV (fun st => X0_sound_L2 kd st.1 st.2) (dep, 0) = some dep1 ∧ ∃ g : Nat → Nat, (∀ s, s < 1200 → dep1 s = nI (g s)) ∧ (∀ s, g s ≤ s + 1) ∧ (∀ s, s < 1200 → kd s = 0 → g s = 0) ∧
    (∀ s, s < 1200 → g s ≤ 1 + ev g (cX s + -1) (cY s) ∧ g s ≤ 1 + ev g (cX s + -1) (cY s + -1) ∧ g s ≤ 1 + ev g (cX s + 0) (cY s + -1) ∧ g s ≤ 1 + ev g (cX s + 1) (cY s + -1)) ∧
    ∀ s, s < 1200 → ∀ h, g s ≤ h → nearO (fun t => kd t = 0) h (cX s) (cY s) := by
  obtain ⟨r, h1, h2⟩ := whileV_up (body := fun st => X0_sound_L2 kd st.1 st.2) 1200
    (fun k st => st.2 = nI k ∧ ∃ g : Nat → Nat, (∀ s, s < k → st.1 s = nI (g s)) ∧ (∀ s, g s ≤ s + 1) ∧ (∀ s, s < k → kd s = 0 → g s = 0) ∧
      (∀ s, s < k → g s ≤ 1 + ev g (cX s + -1) (cY s) ∧ g s ≤ 1 + ev g (cX s + -1) (cY s + -1) ∧ g s ≤ 1 + ev g (cX s + 0) (cY s + -1) ∧ g s ≤ 1 + ev g (cX s + 1) (cY s + -1)) ∧
      ∀ s, s < k → ∀ h, g s ≤ h → nearO (fun t => kd t = 0) h (cX s) (cY s))
    (fun dep1 => ∃ g : Nat → Nat, (∀ s, s < 1200 → dep1 s = nI (g s)) ∧ (∀ s, g s ≤ s + 1) ∧ (∀ s, s < 1200 → kd s = 0 → g s = 0) ∧
      (∀ s, s < 1200 → g s ≤ 1 + ev g (cX s + -1) (cY s) ∧ g s ≤ 1 + ev g (cX s + -1) (cY s + -1) ∧ g s ≤ 1 + ev g (cX s + 0) (cY s + -1) ∧ g s ≤ 1 + ev g (cX s + 1) (cY s + -1)) ∧
      ∀ s, s < 1200 → ∀ h, g s ≤ h → nearO (fun t => kd t = 0) h (cX s) (cY s))
    (fun k st hk hs => by
      obtain ⟨d, i⟩ := st
      obtain ⟨rfl, g, q1, q2, q3, q4, q5⟩ := hs
      dsimp only at q1
      left
      have fk := cXf k
      have body : X0_sound_L2 kd d (nI k) = if kd k = 0 then X0_sound_b2_42 d (nI k) (nI k) 0 else bnd (X0_leastDepth d (nI (k % 40)) (nI (k / 40)) (-1)) fun r_38 => X0_sound_b2_42 d (nI k) (nI k) (1 + r_38) := by
        unfold X0_sound_L2
        rw [if_neg (show ¬ (1200 : Int32) ≤ nI k from nI_ge hk (by decide)), ck_t (ix_nI hk (by decide)), ag_nI (by omega), rem40 (by omega), div40 (by omega)]
      have bl : ∀ v : Nat, X0_sound_b2_42 d (nI k) (nI k) (nI v) = some (.inl (upd d k (nI v), nI (k + 1))) := by
        intro v
        unfold X0_sound_b2_42
        rw [ck_t (ix_nI hk (by decide)), au_nI (by omega), nI_1]
        rfl
      have idx : ∀ x y : Int, inL x y → (40 * y + x).toNat < 1200 := by intro x y h; omega
      have fin : ∀ v : Nat, v ≤ k + 1 → (kd k = 0 → v = 0) → (v ≤ 1 + ev g (cX k + -1) (cY k) ∧ v ≤ 1 + ev g (cX k + -1) (cY k + -1) ∧ v ≤ 1 + ev g (cX k + 0) (cY k + -1) ∧ v ≤ 1 + ev g (cX k + 1) (cY k + -1)) → (∀ h, v ≤ h → nearO (fun t => kd t = 0) h (cX k) (cY k)) →
          (upd d k (nI v), nI (k + 1)).2 = nI (k + 1) ∧ ∃ g : Nat → Nat, (∀ s, s < k + 1 → (upd d k (nI v), nI (k + 1)).1 s = nI (g s)) ∧ (∀ s, g s ≤ s + 1) ∧ (∀ s, s < k + 1 → kd s = 0 → g s = 0) ∧
            (∀ s, s < k + 1 → g s ≤ 1 + ev g (cX s + -1) (cY s) ∧ g s ≤ 1 + ev g (cX s + -1) (cY s + -1) ∧ g s ≤ 1 + ev g (cX s + 0) (cY s + -1) ∧ g s ≤ 1 + ev g (cX s + 1) (cY s + -1)) ∧
            ∀ s, s < k + 1 → ∀ h, g s ≤ h → nearO (fun t => kd t = 0) h (cX s) (cY s) := by
        intro v v1 v2 v3 v4
        refine ⟨rfl, fun t => if t = k then v else g t, fun s hs => ?_, fun s => ?_, fun s hs hz => ?_, fun s hs => ?_, fun s hs h hh => ?_⟩
        · show upd d k (nI v) s = _
          rw [upd_at]
          by_cases e : s = k
          · rw [if_pos e]; dsimp only; rw [if_pos e]
          · rw [if_neg e]; dsimp only; rw [if_neg e]; exact q1 s (by omega)
        · dsimp only
          have := q2 s
          split <;> omega
        · dsimp only
          by_cases e : s = k
          · rw [if_pos e]; exact v2 (e ▸ hz)
          · rw [if_neg e]; exact q3 s (by omega) hz
        · have fs := cXf s
          rw [ev_upd (by intro c; omega), ev_upd (by intro c; omega), ev_upd (by intro c; omega), ev_upd (by intro c; omega)]
          dsimp only
          by_cases e : s = k
          · rw [if_pos e, e]; exact v3
          · rw [if_neg e]; exact q4 s (by omega)
        · dsimp only at hh
          by_cases e : s = k
          · rw [if_pos e] at hh; rw [e]; exact v4 h hh
          · rw [if_neg e] at hh; exact q5 s (by omega) h hh
      by_cases z : kd k = 0
      · refine ⟨(upd d k (nI 0), nI (k + 1)), ?_, fin 0 (by omega) (fun _ => rfl) (by omega) (fun h _ => ⟨cX k, cY k, by omega, by omega, by omega, by omega, fun _ => ?_⟩)⟩
        · show X0_sound_L2 kd d (nI k) = _
          rw [body, if_pos z]
          exact bl 0
        · show kd (40 * cY k + cX k).toNat = 0
          rw [show (40 * cY k + cX k).toNat = k by omega]; exact z
      · have gb : ∀ i j, inL i j → g (40 * j + i).toNat ≤ 1300 := fun i j c => by have := q2 (40 * j + i).toNat; have := idx i j c; omega
        have L := leastDepth_ok (dep := d) (g := g) (x := cX k) (y := cY k) (sd := -1) (by omega) (by omega) (by omega) (by omega) (Or.inr rfl) gb (fun c => q1 _ (by omega)) (fun dd _ _ c => q1 _ (by omega))
        refine ⟨(upd d k (nI (1 + min (min (min (ev g (cX k + -1) (cY k)) (ev g (cX k + -1) (cY k + -1))) (ev g (cX k + 0) (cY k + -1))) (ev g (cX k + 1) (cY k + -1)))), nI (k + 1)), ?_, fin _ ?_ (fun q => absurd q z) (by omega) (fun h hh => ?_)⟩
        · show X0_sound_L2 kd d (nI k) = _
          rw [body, if_neg z, iI_m1]
          have L' : X0_leastDepth d (nI (k % 40)) (nI (k / 40)) (iI (-1)) = _ := L
          rw [L', bnd_some, one_nI, bl]
        · have e1 : ev g (cX k + -1) (cY k) ≤ k := by
            unfold ev
            split
            · have := q2 (40 * cY k + (cX k + -1)).toNat; omega
            · omega
          omega
        · cases h with
          | zero => omega
          | succ h =>
            rcases min_le4 (show min (min (min (ev g (cX k + -1) (cY k)) (ev g (cX k + -1) (cY k + -1))) (ev g (cX k + 0) (cY k + -1))) (ev g (cX k + 1) (cY k + -1)) ≤ h by omega) with q | q | q | q
            all_goals
              refine nearO_up ?_ ?_ ?_ ?_ (nearO_ev (fun i j c e1 e2 h' hh' => ?_) q)
              · omega
              · omega
              · omega
              · omega
              · have := q5 (40 * j + i).toNat (by omega) h' hh'
                rw [(cX_of c).1, (cX_of c).2.1] at this
                exact this)
    (fun st hs => by
      obtain ⟨d, i⟩ := st
      obtain ⟨rfl, hg⟩ := hs
      refine ⟨d, ?_, hg⟩
      show X0_sound_L2 kd d (nI 1200) = _
      unfold X0_sound_L2
      rw [if_pos (show (1200 : Int32) ≤ nI 1200 from nI_le (a := 1200) (Nat.le_refl _) (by decide))]) 0 (dep, 0) (Nat.zero_le _) ⟨rfl, fun _ => 0, fun s h => by omega, fun s => Nat.zero_le _, fun s h => by omega, fun s h => by omega, fun s h => by omega⟩
  exact ⟨r, h1, h2⟩

theorem sound2 (kd dep1 : Ar) {g : Nat → Nat} (p1 : ∀ s, s < 1200 → dep1 s = nI (g s)) (p2 : ∀ s, g s ≤ s + 1) (p3 : ∀ s, s < 1200 → kd s = 0 → g s = 0)
    (p5 : ∀ s, s < 1200 → ∀ h, g s ≤ h → nearO (fun t => kd t = 0) h (cX s) (cY s)) :
    ∃ dep2 : Ar, whileV (fun st => X0_sound_L53 kd st.1 st.2) (dep1, 1199) = some dep2 ∧ ∃ e : Nat → Nat, (∀ s, s < 1200 → dep2 s = nI (e s)) ∧ (∀ s, e s ≤ g s) ∧
    (∀ s, s < 1200 → e s ≤ 1 + ev e (cX s + 1) (cY s) ∧ e s ≤ 1 + ev e (cX s + -1) (cY s + 1) ∧ e s ≤ 1 + ev e (cX s + 0) (cY s + 1) ∧ e s ≤ 1 + ev e (cX s + 1) (cY s + 1)) ∧
    ∀ s, s < 1200 → ∀ h, e s ≤ h → nearO (fun t => kd t = 0) h (cX s) (cY s) := by
  obtain ⟨r, h1, h2⟩ := whileV_up (body := fun st => X0_sound_L53 kd st.1 st.2) 1200
    (fun n st => st.2 = iI (1199 - n) ∧ ∃ e : Nat → Nat, (∀ s, s < 1200 → st.1 s = nI (e s)) ∧ (∀ s, e s ≤ g s) ∧
      (∀ s, s < 1200 → 1200 ≤ s + n → e s ≤ 1 + ev e (cX s + 1) (cY s) ∧ e s ≤ 1 + ev e (cX s + -1) (cY s + 1) ∧ e s ≤ 1 + ev e (cX s + 0) (cY s + 1) ∧ e s ≤ 1 + ev e (cX s + 1) (cY s + 1)) ∧
      ∀ s, s < 1200 → ∀ h, e s ≤ h → nearO (fun t => kd t = 0) h (cX s) (cY s))
    (fun dep2 => ∃ e : Nat → Nat, (∀ s, s < 1200 → dep2 s = nI (e s)) ∧ (∀ s, e s ≤ g s) ∧
      (∀ s, s < 1200 → e s ≤ 1 + ev e (cX s + 1) (cY s) ∧ e s ≤ 1 + ev e (cX s + -1) (cY s + 1) ∧ e s ≤ 1 + ev e (cX s + 0) (cY s + 1) ∧ e s ≤ 1 + ev e (cX s + 1) (cY s + 1)) ∧
      ∀ s, s < 1200 → ∀ h, e s ≤ h → nearO (fun t => kd t = 0) h (cX s) (cY s))
    (fun n st hn hs => by
      obtain ⟨d, i⟩ := st
      obtain ⟨rfl, e, q1, q2, q4, q5⟩ := hs
      dsimp only at q1
      left
      obtain ⟨k, hk⟩ : ∃ k : Nat, k = 1199 - n := ⟨_, rfl⟩
      have hkk : k < 1200 := by omega
      have ei : iI (1199 - n) = nI k := by rw [← iI_nat]; exact congrArg iI (by omega)
      have ei2 : nI k + (-1) = iI (1199 - ((n + 1 : Nat) : Int)) := by rw [iI_m1, ← iI_nat, iI_add]; exact congrArg iI (by omega)
      have fk := cXf k
      have body : X0_sound_L53 kd d (nI k) = if kd k = 0 then X0_sound_b53_96 d (nI k) else bnd (X0_leastDepth d (nI (k % 40)) (nI (k / 40)) 1) fun r_88 => X0_sound_b53_96 (upd d k (mn (nI (e k)) (1 + r_88))) (nI k) := by
        unfold X0_sound_L53
        simp only [if_neg (nI_pos (show k < 2 ^ 31 by omega)), ck_t (ix_nI hkk (show 1200 < 2 ^ 31 by decide)), bnd_some, bnd_none, rmap_some, nm_eq, Sum.elim_inl, Sum.elim_inr, un2_mk, un3_mk, un4_mk, un5_mk, un6_mk, un7_mk, un8_mk, un9_mk, un10_mk, un11_mk, un12_mk]
        rw [rem40 (by omega), div40 (by omega)]
        simp only [ag, au, nI_clamp (show k < 2 ^ 31 by omega), q1 k hkk]
      by_cases z : kd k = 0
      · refine ⟨(d, iI (1199 - ((n + 1 : Nat) : Int))), ?_, rfl, e, q1, q2, fun s hs hn2 => ?_, q5⟩
        · show X0_sound_L53 kd d (iI (1199 - n)) = _
          rw [ei, body, if_pos z, ← ei2]
          rfl
        · by_cases c : s = k
          · have := q2 k
            have := p3 k hkk z
            rw [c]
            omega
          · exact q4 s hs (by omega)
      · have gb : ∀ i j, inL i j → e (40 * j + i).toNat ≤ 1300 := fun i j c => by have := q2 (40 * j + i).toNat; have := p2 (40 * j + i).toNat; have := cX_of c; omega
        have L := leastDepth_ok (dep := d) (g := e) (x := cX k) (y := cY k) (sd := 1) (by omega) (by omega) (by omega) (by omega) (Or.inl rfl) gb (fun c => q1 _ (by omega)) (fun dd _ _ c => q1 _ (by omega))
        obtain ⟨v, hv⟩ : ∃ v : Nat, v = min (e k) (1 + min (min (min (ev e (cX k + 1) (cY k)) (ev e (cX k + -1) (cY k + 1))) (ev e (cX k + 0) (cY k + 1))) (ev e (cX k + 1) (cY k + 1))) := ⟨_, rfl⟩
        have bd : ∀ x y, ev e x y ≤ 1300 := by
          intro x y
          unfold ev
          split
          · exact gb _ _ (by assumption)
          · omega
        refine ⟨(upd d k (nI v), iI (1199 - ((n + 1 : Nat) : Int))), ?_, rfl, fun t => if t = k then v else e t, fun s hs => ?_, fun s => ?_, fun s hs hn2 => ?_, fun s hs h hh => ?_⟩
        · show X0_sound_L53 kd d (iI (1199 - n)) = _
          rw [ei, body, if_neg z]
          have L' : X0_leastDepth d (nI (k % 40)) (nI (k / 40)) 1 = _ := L
          have b1 := bd (cX k + 1) (cY k)
          have b2 := q2 k
          have b3 := p2 k
          rw [L', bnd_some, one_nI, mn_nI (by omega) (by omega), ← ei2, hv]
          rfl
        · show upd d k (nI v) s = _
          rw [upd_at]
          dsimp only
          by_cases c : s = k
          · rw [if_pos c, if_pos c]
          · rw [if_neg c, if_neg c]; exact q1 s hs
        · have := q2 s
          dsimp only
          by_cases c : s = k
          · rw [if_pos c]; rw [c] at this; rw [c]; omega
          · rw [if_neg c]; exact this
        · have fs := cXf s
          rw [ev_upd (by intro c; omega), ev_upd (by intro c; omega), ev_upd (by intro c; omega), ev_upd (by intro c; omega)]
          dsimp only
          by_cases c : s = k
          · rw [if_pos c, c]; omega
          · rw [if_neg c]; exact q4 s hs (by omega)
        · dsimp only at hh
          by_cases c : s = k
          · rw [if_pos c] at hh; rw [c]
            by_cases c2 : e k ≤ h
            · exact q5 k hkk h c2
            · cases h with
              | zero => omega
              | succ h =>
                rcases min_le4 (show min (min (min (ev e (cX k + 1) (cY k)) (ev e (cX k + -1) (cY k + 1))) (ev e (cX k + 0) (cY k + 1))) (ev e (cX k + 1) (cY k + 1)) ≤ h by omega) with q | q | q | q
                all_goals
                  refine nearO_up ?_ ?_ ?_ ?_ (nearO_ev (fun i j c e1 e2 h' hh' => ?_) q)
                  · omega
                  · omega
                  · omega
                  · omega
                  · have := q5 (40 * j + i).toNat (by omega) h' hh'
                    rw [(cX_of c).1, (cX_of c).2.1] at this
                    exact this
          · rw [if_neg c] at hh; exact q5 s hs h hh)
    (fun st hs => by
      obtain ⟨d, i⟩ := st
      obtain ⟨rfl, e, q1, q2, q4, q5⟩ := hs
      refine ⟨d, ?_, e, q1, q2, fun s hs => q4 s hs (by omega), q5⟩
      show X0_sound_L53 kd d (iI (1199 - ((1200 : Nat) : Int))) = _
      unfold X0_sound_L53
      rw [if_pos (show iI (1199 - ((1200 : Nat) : Int)) < 0 from (iI_lt (b := 0) (by omega) (by omega) (by omega) (by omega)).mpr (by omega))]) 0 (dep1, 1199) (Nat.zero_le _) ⟨rfl, g, p1, fun s => Nat.le_refl _, fun s h h2 => by omega, p5⟩
  exact ⟨r, h1, h2⟩
theorem sound_ok (dep kd : Ar) : ∃ dep2 : Ar, X0_sound dep kd = some dep2 ∧ ∃ e : Nat → Nat, ∀ s, s < 1200 → dep2 s = nI (e s) ∧ e s ≤ 1200 ∧ ∀ h, e s ≤ h ↔ nearO (fun t => kd t = 0) h (cX s) (cY s) := by
  obtain ⟨d1, a1, g, g1, g2, g3, g4, g5⟩ := sound1 kd dep
  obtain ⟨d2, b1, e, e1, e2, e4, e5⟩ := sound2 kd d1 g1 g2 g3 g5
  refine ⟨d2, ?_, e, fun s hs => ⟨e1 s hs, by have := e2 s; have := g2 s; omega, fun h => ⟨e5 s hs h, fun ⟨i, j, c1, c2, c3, c4, c5⟩ => ?_⟩⟩⟩
  · unfold X0_sound
    rw [a1, bnd_some, b1]
    rfl
  · have key := near_bwd (O := fun t => kd t = 0) (F := ev g) (E := ev e) (fun x y o => by
      unfold ev
      split
      · exact g3 _ (by omega) (o (by assumption))
      · rfl) (fun x y => ?_) (fun x y => ?_) (fun x y => ?_) (fun x y => ?_) (fun x y => by
      unfold ev
      split
      · exact e2 _
      · exact Nat.le_refl _) (fun x y => ?_) (fun x y => ?_) (fun x y => ?_) (fun x y => ?_) h (cX s) (cY s) i j c5 (by omega) (by omega) (by omega) (by omega)
    · have fs := cXf s
      rw [ev_at (by omega), show (40 * cY s + cX s).toNat = s by omega] at key
      exact key
    all_goals
      by_cases c : inL x y
      · rw [ev_at c]
        have G := g4 _ (cX_of c).2.2
        have E := e4 _ (cX_of c).2.2
        rw [(cX_of c).1, (cX_of c).2.1] at G E
        try simp only [Int.sub_eq_add_neg]
        rw [Int.add_zero] at G E
        first | exact G.1 | exact G.2.1 | exact G.2.2.1 | exact G.2.2.2 | exact E.1 | exact E.2.1 | exact E.2.2.1 | exact E.2.2.2
      · rw [show ev _ x y = 0 by unfold ev; rw [if_neg c]]
        exact Nat.zero_le _
