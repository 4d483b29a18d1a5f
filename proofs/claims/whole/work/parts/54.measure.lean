def WR (len str sla : Ar) (L SQ TQ : Nat → Nat) (n1 n2 : Nat) : Prop := (∀ t, t < 1200 → len t = nI (L t)) ∧ (∀ i, i < n1 → str i = nI (SQ i)) ∧ ∀ i, i < n2 → sla i = nI (TQ i)
theorem add5 (n : Nat) : nI n + 5 = nI (n + 5) := nI_add n 5
theorem add7 (n : Nat) : nI n + 7 = nI (n + 7) := nI_add n 7
theorem reach_ok {n1 n2 t v : Nat} {len sla str kd : Ar} (ht : t < 1200) :
    (¬ kd t = 1 → ∀ b, X8_reach (nI n1) (nI n2) len sla str kd (nI t) (nI v) b = some (nI n1, nI n2, upd len t (nI v), sla, str)) ∧
    (kd t = 1 → n1 < 1200 → X8_reach (nI n1) (nI n2) len sla str kd (nI t) (nI v) 1 = some (nI (n1 + 1), nI n2, upd len t (nI v), sla, upd str n1 (nI t))) ∧
    (kd t = 1 → n2 < 1200 → X8_reach (nI n1) (nI n2) len sla str kd (nI t) (nI v) 0 = some (nI n1, nI (n2 + 1), upd len t (nI v), upd sla n2 (nI t), str)) := by
  have a1 : au len (nI t) (nI v) = upd len t (nI v) := au_nI (by omega)
  have a2 : ag kd (nI t) = kd t := ag_nI (by omega)
  have it := ix_nI ht (show 1200 < 2 ^ 31 by decide)
  refine ⟨fun hk b => ?_, fun hk hn => ?_, fun hk hn => ?_⟩
  · unfold X8_reach
    simp only [ck_t it, a1, a2, if_neg hk, bnd_some, bnd_none, rmap_some, nm_eq, Sum.elim_inl, Sum.elim_inr, un2_mk, un3_mk, un4_mk, un5_mk, un6_mk, un7_mk, un8_mk, un9_mk, un10_mk, un11_mk, un12_mk]
  · unfold X8_reach
    have a3 : au str (nI n1) (nI t) = upd str n1 (nI t) := au_nI (by omega)
    simp only [ck_t it, a1, a2, hk, if_true, bnd_some, bnd_none, rmap_some, nm_eq, Sum.elim_inl, Sum.elim_inr, un2_mk, un3_mk, un4_mk, un5_mk, un6_mk, un7_mk, un8_mk, un9_mk, un10_mk, un11_mk, un12_mk, if_neg (show ¬ (1 : Int32) = 0 by decide), if_neg (show ¬ (1200 : Int32) ≤ nI n1 from nI_ge hn (by decide)), ck_t (ix_nI hn (show 1200 < 2 ^ 31 by decide)), a3, nI_1]
  · unfold X8_reach X8_reach_b58
    have a3 : au sla (nI n2) (nI t) = upd sla n2 (nI t) := au_nI (by omega)
    simp only [ck_t it, a1, a2, hk, if_true, bnd_some, bnd_none, rmap_some, nm_eq, Sum.elim_inl, Sum.elim_inr, un2_mk, un3_mk, un4_mk, un5_mk, un6_mk, un7_mk, un8_mk, un9_mk, un10_mk, un11_mk, un12_mk, if_neg (show ¬ (1200 : Int32) ≤ nI n2 from nI_ge hn (by decide)), ck_t (ix_nI hn (show 1200 < 2 ^ 31 by decide)), a3, nI_1]
theorem WR_len {len str sla : Ar} {L SQ TQ : Nat → Nat} {n1 n2 t v : Nat} (h : WR len str sla L SQ TQ n1 n2) : WR (upd len t (nI v)) str sla (uN L t v) SQ TQ n1 n2 := by
  refine ⟨fun s hs => ?_, h.2⟩
  rw [upd_at]
  unfold uN
  by_cases e : s = t
  · rw [if_pos e, if_pos e]
  · rw [if_neg e, if_neg e]; exact h.1 s hs
/-- one step of o: what the loop does at k -/
theorem stepL_ok {kd : Ar} {o b c k n1 n2 : Nat} {len sla str : Ar} {L SQ TQ : Nat → Nat} (hr : WR len str sla L SQ TQ n1 n2) (ho : o < 1200) (hk : k < 8) (hb : b < 256) (hc : c ≤ 17000) (hL : ∀ t, L t ≤ 1000000)
    (hbit : b.testBit k = true ↔ ∃ t, stp o k = some t ∧ ¬ kd t = 0) :
    ((∀ t, stp o k = some t → ¬ kd t = 0 → L t ≤ c + (if k < 4 then 5 else 7)) ∧ X8_stepFrom_L33 kd (nI o) (nI b) (nI (c + 5)) (nI (c + 7)) (nI n1) (nI n2) len sla str (nI k) = some (.inl (nI n1, nI n2, len, sla, str, nI (k + 1)))) ∨
    ∃ t, stp o k = some t ∧ ¬ kd t = 0 ∧ t < 1200 ∧ c + (if k < 4 then 5 else 7) < L t ∧ ∀ m1 m2 len' sla' str', X8_reach (nI n1) (nI n2) len sla str kd (nI t) (nI (c + (if k < 4 then 5 else 7))) (if k < 4 then 1 else 0) = some (nI m1, nI m2, len', sla', str') →
      X8_stepFrom_L33 kd (nI o) (nI b) (nI (c + 5)) (nI (c + 7)) (nI n1) (nI n2) len sla str (nI k) = some (.inl (nI m1, nI m2, len', sla', str', nI (k + 1))) := by
  have c8 : ¬ (8 : Int32) ≤ nI k := nI_ge hk (by decide)
  have ics := ix_nI hk (show 8 < 2 ^ 31 by decide)
  have ags : ag stepA (nI k) = stepA k := ag_nI (by omega)
  have bit := nI_bit (b := b) (k := k) (by omega) (by omega)
  by_cases tb : b.testBit k = true
  · obtain ⟨t, t1, t2⟩ := hbit.mp tb
    rw [if_pos tb] at bit
    obtain ⟨t', u1, u2, u3, u4⟩ | ⟨u2, u4⟩ := step_ok ho hk
    · rw [t1] at u2
      obtain rfl := Option.some.inj u2
      have agl : ag len (nI t) = nI (L t) := by rw [ag_nI (by omega), hr.1 t u1]
      have hLt := hL t
      by_cases l : L t ≤ c + (if k < 4 then 5 else 7)
      · left
        refine ⟨fun t' v1 v2 => ?_, ?_⟩
        · rw [t1] at v1
          obtain rfl := Option.some.inj v1
          exact l
        · unfold X8_stepFrom_L33 X8_stepFrom_b33_71 X8_stepFrom_b33_104
          by_cases k4 : k < 4
          · rw [if_pos k4] at l
            simp only [if_neg c8, bit, if_neg (show ¬ (1 : Int32) = 0 by decide), ck_t ics, ags, u3, bnd_some, bnd_none, rmap_some, nm_eq, Sum.elim_inl, Sum.elim_inr, un2_mk, un3_mk, un4_mk, un5_mk, un6_mk, un7_mk, un8_mk, un9_mk, un10_mk, un11_mk, un12_mk, if_neg (show ¬ (4 : Int32) ≤ nI k from nI_ge k4 (by decide)), ck_t (ix_nI u1 (show 1200 < 2 ^ 31 by decide)), agl, if_pos (nI_le l (by omega)), nI_1]
          · rw [if_neg k4] at l
            simp only [if_neg c8, bit, if_neg (show ¬ (1 : Int32) = 0 by decide), ck_t ics, ags, u3, bnd_some, bnd_none, rmap_some, nm_eq, Sum.elim_inl, Sum.elim_inr, un2_mk, un3_mk, un4_mk, un5_mk, un6_mk, un7_mk, un8_mk, un9_mk, un10_mk, un11_mk, un12_mk, if_pos (show (4 : Int32) ≤ nI k from nI_le (a := 4) (show 4 ≤ k by omega) (by omega)), ck_t (ix_nI u1 (show 1200 < 2 ^ 31 by decide)), agl, if_pos (nI_le l (by omega)), nI_1]
      · right
        refine ⟨t, t1, t2, u1, by omega, fun m1 m2 len' sla' str' hre => ?_⟩
        unfold X8_stepFrom_L33 X8_stepFrom_b33_71 X8_stepFrom_b33_104 X8_stepFrom_b33_101 X8_stepFrom_b33_104
        by_cases k4 : k < 4
        · rw [if_pos k4] at l
          rw [if_pos k4, if_pos k4] at hre
          simp only [if_neg c8, bit, if_neg (show ¬ (1 : Int32) = 0 by decide), ck_t ics, ags, u3, bnd_some, bnd_none, rmap_some, nm_eq, Sum.elim_inl, Sum.elim_inr, un2_mk, un3_mk, un4_mk, un5_mk, un6_mk, un7_mk, un8_mk, un9_mk, un10_mk, un11_mk, un12_mk, if_neg (show ¬ (4 : Int32) ≤ nI k from nI_ge k4 (by decide)), ck_t (ix_nI u1 (show 1200 < 2 ^ 31 by decide)), agl, if_neg (nI_ge (show c + 5 < L t by omega) (by omega)), hre, nI_1]
        · rw [if_neg k4] at l
          rw [if_neg k4, if_neg k4] at hre
          simp only [if_neg c8, bit, if_neg (show ¬ (1 : Int32) = 0 by decide), ck_t ics, ags, u3, bnd_some, bnd_none, rmap_some, nm_eq, Sum.elim_inl, Sum.elim_inr, un2_mk, un3_mk, un4_mk, un5_mk, un6_mk, un7_mk, un8_mk, un9_mk, un10_mk, un11_mk, un12_mk, if_pos (show (4 : Int32) ≤ nI k from nI_le (a := 4) (show 4 ≤ k by omega) (by omega)), ck_t (ix_nI u1 (show 1200 < 2 ^ 31 by decide)), agl, if_neg (nI_ge (show c + 7 < L t by omega) (by omega)), hre, nI_1]
    · rw [u2] at t1; exact (nomatch t1)
  · left
    refine ⟨fun t v1 v2 => absurd (hbit.mpr ⟨t, v1, v2⟩) tb, ?_⟩
    rw [if_neg tb] at bit
    unfold X8_stepFrom_L33 X8_stepFrom_b33_104
    simp only [if_neg c8, bit, if_true, bnd_some, bnd_none, rmap_some, nm_eq, Sum.elim_inl, Sum.elim_inr, un2_mk, un3_mk, un4_mk, un5_mk, un6_mk, un7_mk, un8_mk, un9_mk, un10_mk, un11_mk, un12_mk, nI_1]
/-- what stepFrom does, if the loop does L -/
theorem stepFrom_of {kd nr : Ar} {o b c n1 n2 : Nat} {len sla str : Ar} {L SQ TQ : Nat → Nat} (hr : WR len str sla L SQ TQ n1 n2) (ho : o < 1200) (hb : nr o = nI b) (hc : L o = c) {r : Int32 × Int32 × Ar × Ar × Ar}
    (h : whileV (fun st => X8_stepFrom_L33 kd (nI o) (nI b) (nI (c + 5)) (nI (c + 7)) st.1 st.2.1 st.2.2.1 st.2.2.2.1 st.2.2.2.2.1 st.2.2.2.2.2) (nI n1, nI n2, len, sla, str, nI 0) = some r) :
    X8_stepFrom (nI n1) (nI n2) len sla str kd nr (nI o) = some r := by
  unfold X8_stepFrom
  have agn : ag nr (nI o) = nI b := by rw [ag_nI (by omega), hb]
  have agl : ag len (nI o) = nI c := by rw [ag_nI (by omega), hr.1 o ho, hc]
  have h' : whileV (fun st => X8_stepFrom_L33 kd (nI o) (nI b) (nI (c + 5)) (nI (c + 7)) st.1 st.2.1 st.2.2.1 st.2.2.2.1 st.2.2.2.2.1 st.2.2.2.2.2) (nI n1, nI n2, len, sla, str, 0) = some r := h
  obtain ⟨r1, r2, r3, r4, r5⟩ := r
  simp only [ck_t (ix_nI ho (show 1200 < 2 ^ 31 by decide)), agn, agl, bnd_some, bnd_none, rmap_some, nm_eq, Sum.elim_inl, Sum.elim_inr, un2_mk, un3_mk, un4_mk, un5_mk, un6_mk, un7_mk, un8_mk, un9_mk, un10_mk, un11_mk, un12_mk, add5, add7, h']
theorem stepL_end {kd : Ar} {o b c3 c4 n1 n2 : Int32} {len sla str : Ar} : X8_stepFrom_L33 kd o b c3 c4 n1 n2 len sla str (nI 8) = some (.inr (n1, n2, len, sla, str)) := by
  unfold X8_stepFrom_L33
  rw [if_pos (show (8 : Int32) ≤ nI 8 from nI_le (a := 8) (Nat.le_refl _) (by decide))]
theorem step_A {kd nr : Ar} {o n1 n2 : Nat} {len sla str : Ar} {L SQ TQ : Nat → Nat} (hn : NearOK kd nr) (hr : WR len str sla L SQ TQ n1 n2) (ho : o < 1200) (hc : L o ≤ 17000) (hL : ∀ t, L t ≤ 1000000)
    (hd : ∀ t w, adj o t w → ¬ kd t = 0 → L t ≤ L o + w) : X8_stepFrom (nI n1) (nI n2) len sla str kd nr (nI o) = some (nI n1, nI n2, len, sla, str) := by
  obtain ⟨b, b1, b2, b3⟩ := hn o ho
  refine stepFrom_of hr ho b2 rfl ?_
  obtain ⟨r, h1, h2⟩ := whileV_up (body := fun st => X8_stepFrom_L33 kd (nI o) (nI b) (nI (L o + 5)) (nI (L o + 7)) st.1 st.2.1 st.2.2.1 st.2.2.2.1 st.2.2.2.2.1 st.2.2.2.2.2) 8
    (fun k st => st = (nI n1, nI n2, len, sla, str, nI k)) (fun r => r = (nI n1, nI n2, len, sla, str)) (fun k st hk hs => by
      subst hs
      left
      refine ⟨_, ?_, rfl⟩
      rcases stepL_ok hr ho hk b1 hc hL (b3 k hk) with ⟨_, q⟩ | ⟨t, t1, t2, t3, t4, _⟩
      · exact q
      · have := hd t _ (stp_adj ho hk t1) t2
        omega) (fun st hs => by
      subst hs
      exact ⟨_, stepL_end, rfl⟩) 0 (nI n1, nI n2, len, sla, str, nI 0) (by omega) rfl
  rw [h1, h2]
theorem step_B {kd nr : Ar} {f o n1 n2 a1 a2 c : Nat} {len sla str : Ar} {L SQ TQ K : Nat → Nat} {D : Nat → Prop} (hn : NearOK kd nr) (hr : WR len str sla L SQ TQ n1 n2) (hw : WI kd f L SQ TQ K D n1 n2 a1 a2 c) (ho : o < 1200) (hof : o = f ∨ kd o = 1) (hc : L o = c) (hb : c ≤ 17000) (l1 : a1 ≤ n1) (l2 : a2 ≤ n2) :
    ∃ (len' sla' str' : Ar) (L' SQ' TQ' K' : Nat → Nat) (m1 m2 : Nat), X8_stepFrom (nI n1) (nI n2) len sla str kd nr (nI o) = some (nI m1, nI m2, len', sla', str') ∧ WR len' str' sla' L' SQ' TQ' m1 m2 ∧ WI kd f L' SQ' TQ' K' D m1 m2 a1 a2 c ∧
      L' o = c ∧ n1 ≤ m1 ∧ n2 ≤ m2 ∧ (∀ i, i < n1 → SQ' i = SQ i) ∧ (∀ i, i < n2 → TQ' i = TQ i) ∧ ∀ t w, adj o t w → ¬ kd t = 0 → L' t ≤ c + w := by
  obtain ⟨b, b1, b2, b3⟩ := hn o ho
  obtain ⟨⟨r1, r2, r3, r4, r5⟩, h1, m1, m2, L', SQ', TQ', K', e1, e2, g1, g2, g3, g4, g5, g6, g7, g8⟩ := whileV_up (body := fun st => X8_stepFrom_L33 kd (nI o) (nI b) (nI (c + 5)) (nI (c + 7)) st.1 st.2.1 st.2.2.1 st.2.2.2.1 st.2.2.2.2.1 st.2.2.2.2.2) 8
    (fun k st => st.2.2.2.2.2 = nI k ∧ ∃ (m1 m2 : Nat) (L' SQ' TQ' K' : Nat → Nat), st.1 = nI m1 ∧ st.2.1 = nI m2 ∧ WR st.2.2.1 st.2.2.2.2.1 st.2.2.2.1 L' SQ' TQ' m1 m2 ∧ WI kd f L' SQ' TQ' K' D m1 m2 a1 a2 c ∧
      L' o = c ∧ n1 ≤ m1 ∧ n2 ≤ m2 ∧ (∀ i, i < n1 → SQ' i = SQ i) ∧ (∀ i, i < n2 → TQ' i = TQ i) ∧ ∀ j, j < k → ∀ t, stp o j = some t → ¬ kd t = 0 → L' t ≤ c + (if j < 4 then 5 else 7))
    (fun r => ∃ (m1 m2 : Nat) (L' SQ' TQ' K' : Nat → Nat), r.1 = nI m1 ∧ r.2.1 = nI m2 ∧ WR r.2.2.1 r.2.2.2.2 r.2.2.2.1 L' SQ' TQ' m1 m2 ∧ WI kd f L' SQ' TQ' K' D m1 m2 a1 a2 c ∧
      L' o = c ∧ n1 ≤ m1 ∧ n2 ≤ m2 ∧ (∀ i, i < n1 → SQ' i = SQ i) ∧ (∀ i, i < n2 → TQ' i = TQ i) ∧ ∀ j, j < 8 → ∀ t, stp o j = some t → ¬ kd t = 0 → L' t ≤ c + (if j < 4 then 5 else 7))
    (fun k st hk hs => by
      obtain ⟨x1, x2, len, sla, str, i⟩ := st
      obtain ⟨rfl, m1, m2, L', SQ', TQ', K', rfl, rfl, g1, g2, g3, g4, g5, g6, g7, g8⟩ := hs
      dsimp only at g1
      left
      rcases stepL_ok g1 ho hk b1 hb g2.2.1 (b3 k hk) with ⟨q1, q⟩ | ⟨t, t1, t2, t3, t4, t5⟩
      · refine ⟨_, q, rfl, m1, m2, L', SQ', TQ', K', rfl, rfl, g1, g2, g3, g4, g5, g6, g7, fun j hj t => ?_⟩
        by_cases e : j = k
        · rw [e]; exact q1 t
        · exact g8 j (by omega) t
      · have aj := stp_adj ho hk t1
        obtain ⟨y1, y2, y3⟩ := reach_ok (n1 := m1) (n2 := m2) (t := t) (v := c + (if k < 4 then 5 else 7)) (len := len) (sla := sla) (str := str) (kd := kd) t3
        have bnd : c + (if k < 4 then 5 else 7) < 1000000 := by split <;> omega
        obtain ⟨le, tf, to, _⟩ := WI_set g2 hof g3 aj t4 bnd
        have old : ∀ j, j < k + 1 → ∀ t', stp o j = some t' → ¬ kd t' = 0 → uN L' t (c + (if k < 4 then 5 else 7)) t' ≤ c + (if j < 4 then 5 else 7) := by
          intro j hj t' v1 v2
          by_cases e : j = k
          · subst e
            rw [t1] at v1
            obtain rfl := Option.some.inj v1
            rw [uN_s]; exact Nat.le_refl _
          · exact Nat.le_trans (le t') (g8 j (by omega) t' v1 v2)
        have lo : uN L' t (c + (if k < 4 then 5 else 7)) o = c := by rw [uN_n (Ne.symm to)]; exact g3
        by_cases hh : kd t = 1
        · by_cases k4 : k < 4
          · rw [if_pos k4] at aj t4 bnd t5 y2 old lo
            rw [if_pos k4] at t5
            obtain ⟨cap, W⟩ := WI_5 g2 hof g3 aj t4 bnd (by omega) hh
            refine ⟨_, t5 _ _ _ _ _ (y2 hh cap), rfl, m1 + 1, m2, _, _, _, _, rfl, rfl, ⟨(WR_len g1).1, fun i hi => ?_, g1.2.2⟩, W, lo, by omega, g5, fun i hi => ?_, g7, old⟩
            · show upd str m1 (nI t) i = _
              rw [upd_at]
              unfold uN
              by_cases e : i = m1
              · rw [if_pos e, if_pos e]
              · rw [if_neg e, if_neg e]; exact g1.2.1 i (by omega)
            · rw [uN_n (by omega)]; exact g6 i hi
          · rw [if_neg k4] at aj t4 bnd t5 y3 old lo
            rw [if_neg k4] at t5
            obtain ⟨cap, W⟩ := WI_7 g2 hof g3 aj t4 bnd (by omega) hh
            refine ⟨_, t5 _ _ _ _ _ (y3 hh cap), rfl, m1, m2 + 1, _, _, _, _, rfl, rfl, ⟨(WR_len g1).1, g1.2.1, fun i hi => ?_⟩, W, lo, g4, by omega, g6, fun i hi => ?_, old⟩
            · show upd sla m2 (nI t) i = _
              rw [upd_at]
              unfold uN
              by_cases e : i = m2
              · rw [if_pos e, if_pos e]
              · rw [if_neg e, if_neg e]; exact g1.2.2 i (by omega)
            · rw [uN_n (by omega)]; exact g7 i hi
        · have W := WI_0 g2 hof g3 aj t4 bnd hh
          exact ⟨_, t5 _ _ _ _ _ (y1 hh _), rfl, m1, m2, _, _, _, _, rfl, rfl, WR_len g1, W, lo, g4, g5, g6, g7, old⟩)
    (fun st hs => by
      obtain ⟨x1, x2, len, sla, str, i⟩ := st
      obtain ⟨rfl, m1, m2, L', SQ', TQ', K', rfl, rfl, g1, g2, g3, g4, g5, g6, g7, g8⟩ := hs
      exact ⟨_, stepL_end, m1, m2, L', SQ', TQ', K', rfl, rfl, g1, g2, g3, g4, g5, g6, g7, g8⟩) 0 (nI n1, nI n2, len, sla, str, nI 0) (by omega)
    ⟨rfl, n1, n2, L, SQ, TQ, K, rfl, rfl, hr, hw, hc, Nat.le_refl _, Nat.le_refl _, fun _ _ => rfl, fun _ _ => rfl, fun j hj => by omega⟩
  have e1' : r1 = nI m1 := e1
  have e2' : r2 = nI m2 := e2
  subst e1' e2'
  refine ⟨r3, r4, r5, L', SQ', TQ', K', m1, m2, stepFrom_of hr ho b2 hc h1, g1, g2, g3, g4, g5, g6, g7, fun t w ha hk => ?_⟩
  obtain ⟨k, k1, k2, k3⟩ := adj_stp ha
  rw [k3]
  exact g8 k k1 t k2 hk
