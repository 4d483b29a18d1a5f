theorem WI_n {kd : Ar} {f : Nat} {L SQ TQ K : Nat → Nat} {D : Nat → Prop} {n1 n2 a1 a2 c : Nat} (h : WI kd f L SQ TQ K D n1 n2 a1 a2 c) : n1 ≤ 1200 ∧ n2 ≤ 1200 := by
  obtain ⟨i1, i2, i3, q1, q1s, q2, q2s, q3, d, d2, d2', d3, q4, q4'⟩ := h
  exact ⟨inj_le 1200 n1 SQ (fun i hi => (q1 i hi).1) (fun i j hi hj => (q1s i j hi hj).1), inj_le 1200 n2 TQ (fun i hi => (q2 i hi).1) (fun i j hi hj => (q2s i j hi hj).1)⟩
/-- one square is taken out of the queues -/
theorem takes {kd nr : Ar} {f o n1 n2 a1 a2 b1 b2 c k : Nat} {len sla str : Ar} {L SQ TQ K : Nat → Nat} {D : Nat → Prop} (hn : NearOK kd nr) (hr : WR len str sla L SQ TQ n1 n2) (hw : WI kd f L SQ TQ K D n1 n2 a1 a2 c) (ho : o < 1200) (hof : kd o = 1) (hb : c ≤ 7 * k) (hk : k < 2400) (l1 : b1 ≤ n1) (l2 : b2 ≤ n2) (m1 : a1 ≤ b1) (m2 : a2 ≤ b2)
    (h1 : ∀ i, i < b1 → i < a1 ∨ SQ i = o) (h2 : ∀ i, i < b2 → i < a2 ∨ TQ i = o) (hp : ¬ D o → L o ≤ c + 7 ∧ WI kd f L SQ TQ K D n1 n2 a1 a2 (L o)) :
    ∃ (len' sla' str' : Ar) (L' SQ' TQ' K' : Nat → Nat) (D' : Nat → Prop) (m1 m2 c' : Nat), X8_stepFrom (nI n1) (nI n2) len sla str kd nr (nI o) = some (nI m1, nI m2, len', sla', str') ∧ WR len' str' sla' L' SQ' TQ' m1 m2 ∧ WI kd f L' SQ' TQ' K' D' m1 m2 b1 b2 c' ∧ (∀ e, D e → D' e) ∧ b1 ≤ m1 ∧ b2 ≤ m2 ∧ c' ≤ 7 * (k + 1) := by
  by_cases hd : D o
  · have dd := hw.2.2.2.2.2.2.2.2.1 o hd
    have A := step_A (SQ := SQ) (TQ := TQ) hn hr ho (by omega) hw.2.1 dd.2
    have W := WI_done (b1 := b1) (b2 := b2) hw dd.1 dd.2 h1 h2 m1 m2
    exact ⟨len, sla, str, L, SQ, TQ, K, _, n1, n2, c, A, hr, W, fun e he => Or.inl he, l1, l2, by omega⟩
  · obtain ⟨p1, p2⟩ := hp hd
    obtain ⟨len', sla', str', L', SQ', TQ', K', k1, k2, e1, e2, e3, e4, e5, e6, e7, e8, e9⟩ := step_B hn hr p2 ho (Or.inr hof) rfl (by omega) (by omega) (by omega)
    have W := WI_done (b1 := b1) (b2 := b2) e3 (Nat.le_of_eq e4) (by rw [e4]; exact e9) (fun i hi => by
      rcases h1 i hi with q | q
      · exact Or.inl q
      · exact Or.inr (by rw [e7 i (by omega)]; exact q)) (fun i hi => by
      rcases h2 i hi with q | q
      · exact Or.inl q
      · exact Or.inr (by rw [e8 i (by omega)]; exact q)) m1 m2
    exact ⟨len', sla', str', L', SQ', TQ', K', _, k1, k2, L o, e1, e2, W, fun e he => Or.inl he, by omega, by omega, by omega⟩
def MS (kd : Ar) (f k : Nat) (n1' n2' : Int32) (len sla str : Ar) (a1' a2' : Int32) : Prop :=
  ∃ (n1 n2 a1 a2 c : Nat) (L SQ TQ K : Nat → Nat) (D : Nat → Prop), n1' = nI n1 ∧ n2' = nI n2 ∧ a1' = nI a1 ∧ a2' = nI a2 ∧ WR len str sla L SQ TQ n1 n2 ∧ WI kd f L SQ TQ K D n1 n2 a1 a2 c ∧ D f ∧ a1 + a2 = k ∧ a1 ≤ n1 ∧ a2 ≤ n2 ∧ c ≤ 7 * k
def ME (kd : Ar) (f : Nat) (n1' n2' : Int32) (len sla str : Ar) : Prop := ∃ k a1' a2', k ≤ 2400 ∧ MS kd f k n1' n2' len sla str a1' a2' ∧ n1' = a1' ∧ n2' = a2'
theorem meas_step {kd nr : Ar} {f k : Nat} {n1' n2' a1' a2' : Int32} {len sla str : Ar} (hn : NearOK kd nr) (hk : k < 2400) (h : MS kd f k n1' n2' len sla str a1' a2') :
    (∃ s' : Int32 × Int32 × Ar × Ar × Ar × Int32 × Int32 × Int32, X8_measureFrom_L38 kd nr n1' n2' len sla str a1' a2' (nI k) = some (.inl s') ∧ s'.2.2.2.2.2.2.2 = nI (k + 1) ∧ MS kd f (k + 1) s'.1 s'.2.1 s'.2.2.1 s'.2.2.2.1 s'.2.2.2.2.1 s'.2.2.2.2.2.1 s'.2.2.2.2.2.2.1) ∨
    (X8_measureFrom_L38 kd nr n1' n2' len sla str a1' a2' (nI k) = some (.inr (.inr (n1', n2', len, sla, str))) ∧ ME kd f n1' n2' len sla str) := by
  have H := h
  obtain ⟨n1, n2, a1, a2, c, L, SQ, TQ, K, D, rfl, rfl, rfl, rfl, hr, hw, hf, hs, l1, l2, hc⟩ := h
  obtain ⟨N1, N2⟩ := WI_n hw
  have ck : ¬ (2400 : Int32) ≤ nI k := nI_ge hk (by decide)
  have n10 : ¬ (1 : Int32) = 0 := by decide
  -- a straight one goes
  have goS : a1 < n1 → (a2 < n2 → L (SQ a1) ≤ L (TQ a2)) → ∃ s' : Int32 × Int32 × Ar × Ar × Ar × Int32 × Int32 × Int32, X8_measureFrom_b38_124 (nI n1) (nI n2) len sla str kd nr (nI a1) (nI a2) (nI k) = some (.inl s') ∧ s'.2.2.2.2.2.2.2 = nI (k + 1) ∧ MS kd f (k + 1) s'.1 s'.2.1 s'.2.2.1 s'.2.2.2.1 s'.2.2.2.2.1 s'.2.2.2.2.2.1 s'.2.2.2.2.2.2.1 := by
    intro x1 x2
    have q1 := hw.2.2.2.1 a1 x1
    obtain ⟨len', sla', str', L', SQ', TQ', K', D', m1, m2, c', e1, e2, e3, e4, e5, e6, e7⟩ := takes (b1 := a1 + 1) (b2 := a2) hn hr hw q1.1 q1.2.1 hc hk (by omega) l2 (by omega) (by omega)
      (fun i hi => by
        by_cases e : i = a1
        · exact Or.inr (by rw [e])
        · exact Or.inl (by omega)) (fun i hi => Or.inl hi) (fun hd => by have := WI_pop1 hw x1 x2 hd; exact ⟨by omega, this.2.2⟩)
    have ags : ag str (nI a1) = nI (SQ a1) := by rw [ag_nI (by omega), hr.2.1 a1 x1]
    refine ⟨(nI m1, nI m2, len', sla', str', nI (a1 + 1), nI a2, nI (k + 1)), ?_, rfl, m1, m2, a1 + 1, a2, c', L', SQ', TQ', K', D', rfl, rfl, rfl, rfl, e2, e3, e4 f hf, by omega, e5, e6, e7⟩
    unfold X8_measureFrom_b38_124 X8_measureFrom_b38_153
    simp only [ck_t (ix_nI (show a1 < 1200 by omega) (show 1200 < 2 ^ 31 by decide)), ags, e1, bnd_some, bnd_none, rmap_some, nm_eq, Sum.elim_inl, Sum.elim_inr, un2_mk, un3_mk, un4_mk, un5_mk, un6_mk, un7_mk, un8_mk, un9_mk, un10_mk, un11_mk, un12_mk, nI_1]
  have goT : a2 < n2 → (a1 < n1 → L (TQ a2) < L (SQ a1)) → ∃ s' : Int32 × Int32 × Ar × Ar × Ar × Int32 × Int32 × Int32, X8_measureFrom_b38_140 (nI n1) (nI n2) len sla str kd nr (nI a1) (nI a2) (nI k) = some (.inl s') ∧ s'.2.2.2.2.2.2.2 = nI (k + 1) ∧ MS kd f (k + 1) s'.1 s'.2.1 s'.2.2.1 s'.2.2.2.1 s'.2.2.2.2.1 s'.2.2.2.2.2.1 s'.2.2.2.2.2.2.1 := by
    intro x1 x2
    have q1 := hw.2.2.2.2.2.1 a2 x1
    obtain ⟨len', sla', str', L', SQ', TQ', K', D', m1, m2, c', e1, e2, e3, e4, e5, e6, e7⟩ := takes (b1 := a1) (b2 := a2 + 1) hn hr hw q1.1 q1.2.1 hc hk l1 (by omega) (by omega) (by omega) (fun i hi => Or.inl hi)
      (fun i hi => by
        by_cases e : i = a2
        · exact Or.inr (by rw [e])
        · exact Or.inl (by omega)) (fun hd => by have := WI_pop2 hw x1 x2 hd; exact ⟨by omega, this.2.2⟩)
    have ags : ag sla (nI a2) = nI (TQ a2) := by rw [ag_nI (by omega), hr.2.2 a2 x1]
    refine ⟨(nI m1, nI m2, len', sla', str', nI a1, nI (a2 + 1), nI (k + 1)), ?_, rfl, m1, m2, a1, a2 + 1, c', L', SQ', TQ', K', D', rfl, rfl, rfl, rfl, e2, e3, e4 f hf, by omega, e5, e6, e7⟩
    unfold X8_measureFrom_b38_140 X8_measureFrom_b38_153
    simp only [ck_t (ix_nI (show a2 < 1200 by omega) (show 1200 < 2 ^ 31 by decide)), ags, e1, bnd_some, bnd_none, rmap_some, nm_eq, Sum.elim_inl, Sum.elim_inr, un2_mk, un3_mk, un4_mk, un5_mk, un6_mk, un7_mk, un8_mk, un9_mk, un10_mk, un11_mk, un12_mk, nI_1]
  by_cases x1 : a1 < n1
  · have y1 : ¬ nI n1 ≤ nI a1 := nI_ge x1 (by omega)
    left
    by_cases x2 : a2 < n2
    · have y2 : ¬ nI n2 ≤ nI a2 := nI_ge x2 (by omega)
      have q1 := (hw.2.2.2.1 a1 x1).1
      have q2 := (hw.2.2.2.2.2.1 a2 x2).1
      have ag1 : ag str (nI a1) = nI (SQ a1) := by rw [ag_nI (by omega), hr.2.1 a1 x1]
      have ag2 : ag sla (nI a2) = nI (TQ a2) := by rw [ag_nI (by omega), hr.2.2 a2 x2]
      have ag3 : ag len (nI (SQ a1)) = nI (L (SQ a1)) := by rw [ag_nI (by omega), hr.1 _ q1]
      have ag4 : ag len (nI (TQ a2)) = nI (L (TQ a2)) := by rw [ag_nI (by omega), hr.1 _ q2]
      have v1 := hw.2.1 (SQ a1)
      have v2 := hw.2.1 (TQ a2)
      by_cases l : L (TQ a2) < L (SQ a1)
      · obtain ⟨s', e1, e2, e3⟩ := goT x2 (fun _ => l)
        refine ⟨s', ?_, e2, e3⟩
        unfold X8_measureFrom_L38 X8_measureFrom_b38_59 X8_measureFrom_b38_74 X8_measureFrom_b38_89
        simp only [if_neg ck, if_neg y1, if_neg y2, if_neg n10, ag1, ag2, ag3, ag4, ck_t (ix_nI (show a1 < 1200 by omega) (show 1200 < 2 ^ 31 by decide)), ck_t (ix_nI (show a2 < 1200 by omega) (show 1200 < 2 ^ 31 by decide)), ck_t (ix_nI q1 (show 1200 < 2 ^ 31 by decide)), ck_t (ix_nI q2 (show 1200 < 2 ^ 31 by decide)), if_pos (nI_lt l (by omega)), e1]
      · obtain ⟨s', e1, e2, e3⟩ := goS x1 (fun _ => by omega)
        refine ⟨s', ?_, e2, e3⟩
        unfold X8_measureFrom_L38 X8_measureFrom_b38_59 X8_measureFrom_b38_74 X8_measureFrom_b38_89
        simp only [if_neg ck, if_neg y1, if_neg y2, if_neg n10, ag1, ag2, ag3, ag4, ck_t (ix_nI (show a1 < 1200 by omega) (show 1200 < 2 ^ 31 by decide)), ck_t (ix_nI (show a2 < 1200 by omega) (show 1200 < 2 ^ 31 by decide)), ck_t (ix_nI q1 (show 1200 < 2 ^ 31 by decide)), ck_t (ix_nI q2 (show 1200 < 2 ^ 31 by decide)), if_neg (nI_nlt (show L (SQ a1) ≤ L (TQ a2) by omega) (by omega)), e1]
    · have y2 : nI n2 ≤ nI a2 := nI_le (by omega) (by omega)
      obtain ⟨s', e1, e2, e3⟩ := goS x1 (fun q => absurd q x2)
      refine ⟨s', ?_, e2, e3⟩
      unfold X8_measureFrom_L38 X8_measureFrom_b38_59 X8_measureFrom_b38_74 X8_measureFrom_b38_89
      simp only [if_neg ck, if_neg y1, if_pos y2, if_neg n10, if_true, e1]
  · have y1 : nI n1 ≤ nI a1 := nI_le (by omega) (by omega)
    by_cases x2 : a2 < n2
    · left
      have y2 : ¬ nI n2 ≤ nI a2 := nI_ge x2 (by omega)
      obtain ⟨s', e1, e2, e3⟩ := goT x2 (fun q => absurd q x1)
      refine ⟨s', ?_, e2, e3⟩
      unfold X8_measureFrom_L38 X8_measureFrom_b38_59 X8_measureFrom_b38_74 X8_measureFrom_b38_89
      simp only [if_neg ck, if_pos y1, if_neg y2, if_neg n10, if_true, e1]
    · right
      have y2 : nI n2 ≤ nI a2 := nI_le (by omega) (by omega)
      refine ⟨?_, k, nI a1, nI a2, by omega, H, by rw [show n1 = a1 by omega], by rw [show n2 = a2 by omega]⟩
      unfold X8_measureFrom_L38 X8_measureFrom_b38_59 X8_measureFrom_b38_74
      simp only [if_neg ck, if_pos y1, if_pos y2, if_true]
theorem ME_D {kd : Ar} {f : Nat} {n1' n2' : Int32} {len sla str : Ar} (h : ME kd f n1' n2' len sla str) : ∃ L : Nat → Nat, ∀ t, t < 1200 → len t = nI (L t) ∧ (¬ kd t = 0 → Dst kd f t (L t)) := by
  obtain ⟨k, a1', a2', hk, ⟨n1, n2, a1, a2, c, L, SQ, TQ, K, D, rfl, rfl, rfl, rfl, hr, hw, hf, hs, l1, l2, hc⟩, e1, e2⟩ := h
  obtain ⟨N1, N2⟩ := WI_n hw
  obtain ⟨i1, i2, i3, q1, q1s, q2, q2s, q3, d, d2, d2', d3, q4, q4'⟩ := hw
  have e1 : n1 = a1 := (nI_eq (by omega) (by omega)).mp e1
  have e2 : n2 = a2 := (nI_eq (by omega) (by omega)).mp e2
  subst e1 e2
  have all : ∀ o, o < 1200 → (o = f ∨ kd o = 1) → L o < 1000000 → D o := by
    intro o ho h h2
    by_cases q : o = f
    · rw [q]; exact hf
    · have h : kd o = 1 := by rcases h with r | r; exact absurd r q; exact r
      rcases d3 o ho h q h2 with ⟨i, j1, j2⟩ | ⟨i, j1, j2⟩
      · rw [← j2]; exact d2 i j1
      · rw [← j2]; exact d2' i j1
  refine ⟨L, fun t ht => ⟨hr.1 t ht, fun hk => Dst_of i1 i2 (fun t ht hk hl => ?_) (fun o t w h1 h2 h3 h4 => (d o (all o h3.1 h1 h2)).2 t w h3 h4) i3 ht hk⟩⟩
  by_cases q : t = f
  · rw [q, i1]; omega
  · obtain ⟨o, w, p1, p2, p3⟩ := i3 t ht q hl
    have w7 := adj_w p2
    have dd := d o (all o p2.1 p1 (by omega))
    have := dd.2 t w p2 hk
    omega
theorem measure_ok {kd nr : Ar} {f : Nat} (hn : NearOK kd nr) (hf : f < 1200) (s1 s2 : Int32) (len sla str : Ar) : ∃ (n1 n2 : Int32) (len' sla' str' : Ar), X8_measureFrom s1 s2 len sla str kd nr (nI f) = some (n1, n2, len', sla', str') ∧ ∃ L : Nat → Nat, ∀ t, t < 1200 → len' t = nI (L t) ∧ (¬ kd t = 0 → Dst kd f t (L t)) := by
  obtain ⟨g, f1, f2⟩ := fill_ok 1200 (by decide) len 1000000
  have hr0 : WR (upd g f 0) str sla (uN (fun _ => 1000000) f 0) (fun _ => 0) (fun _ => 0) 0 0 := by
    refine ⟨fun t ht => ?_, fun i hi => by omega, fun i hi => by omega⟩
    rw [upd_at]
    unfold uN
    by_cases e : t = f
    · rw [if_pos e, if_pos e]; rfl
    · rw [if_neg e, if_neg e, f2 t, if_pos ht]; rfl
  have hw0 : WI kd f (uN (fun _ => 1000000) f 0) (fun _ => 0) (fun _ => 0) (fun _ => 0) (fun _ => False) 0 0 0 0 0 := by
    have nf : ∀ t, t ≠ f → uN (fun _ => 1000000) f 0 t = 1000000 := fun t e => uN_n e
    refine ⟨uN_s _ _ _, fun t => ?_, fun t ht e h => ?_, fun i hi => by omega, fun i j _ hi => by omega, fun i hi => by omega, fun i j _ hi => by omega, fun i _ hi => by omega, fun e he => False.elim he, fun i hi => by omega, fun i hi => by omega, fun e _ _ h3 h4 => ?_, fun i _ hi => by omega, fun i _ hi => by omega⟩
    · by_cases e : t = f
      · rw [e, uN_s]; omega
      · rw [nf t e]; omega
    · rw [nf t e] at h; omega
    · rw [nf e h3] at h4; omega
  obtain ⟨len', sla', str', L', SQ', TQ', K', m1, m2, e1, e2, e3, e4, e5, e6, e7, e8, e9⟩ := step_B hn hr0 hw0 hf (Or.inl rfl) (uN_s _ _ _) (by omega) (by omega) (by omega)
  have W := WI_done (b1 := 0) (b2 := 0) e3 (Nat.le_of_eq e4) (by rw [e4]; exact e9) (fun i hi => by omega) (fun i hi => by omega) (by omega) (by omega)
  obtain ⟨r, w1, w2⟩ := whileV_up (body := fun st => X8_measureFrom_L38 kd nr st.1 st.2.1 st.2.2.1 st.2.2.2.1 st.2.2.2.2.1 st.2.2.2.2.2.1 st.2.2.2.2.2.2.1 st.2.2.2.2.2.2.2) 2400
    (fun k st => st.2.2.2.2.2.2.2 = nI k ∧ MS kd f k st.1 st.2.1 st.2.2.1 st.2.2.2.1 st.2.2.2.2.1 st.2.2.2.2.2.1 st.2.2.2.2.2.2.1)
    (fun r => (∃ n1 n2 len sla str, r = .inl (n1, n2, len, sla, str) ∧ ME kd f n1 n2 len sla str) ∨ (∃ n1 n2 len sla str, r = .inr (n1, n2, len, sla, str) ∧ ME kd f n1 n2 len sla str))
    (fun k st hk hs => by
      obtain ⟨x1, x2, len, sla, str, y1, y2, i⟩ := st
      obtain ⟨rfl, hs⟩ := hs
      rcases meas_step hn hk hs with ⟨s', u1, u2, u3⟩ | ⟨u1, u2⟩
      · exact Or.inl ⟨s', u1, u2, u3⟩
      · exact Or.inr ⟨_, u1, Or.inr ⟨_, _, _, _, _, rfl, u2⟩⟩)
    (fun st hs => by
      obtain ⟨x1, x2, len, sla, str, y1, y2, i⟩ := st
      obtain ⟨rfl, hs⟩ := hs
      dsimp only at hs
      refine ⟨.inl (x1, x2, len, sla, str), ?_, Or.inl ⟨_, _, _, _, _, rfl, 2400, y1, y2, by omega, hs, ?_⟩⟩
      · show X8_measureFrom_L38 kd nr x1 x2 len sla str y1 y2 (nI 2400) = _
        unfold X8_measureFrom_L38
        rw [if_pos (show (2400 : Int32) ≤ nI 2400 from nI_le (a := 2400) (Nat.le_refl _) (by decide))]
      · obtain ⟨n1, n2, a1, a2, c, L, SQ, TQ, K, D, rfl, rfl, rfl, rfl, hr, hw, hf, hs, l1, l2, hc⟩ := hs
        obtain ⟨N1, N2⟩ := WI_n hw
        exact ⟨by rw [show n1 = a1 by omega], by rw [show n2 = a2 by omega]⟩) 0 (nI m1, nI m2, len', sla', str', nI 0, nI 0, nI 0) (by omega)
    ⟨rfl, m1, m2, 0, 0, 0, L', SQ', TQ', K', _, rfl, rfl, rfl, rfl, e2, W, Or.inr rfl, by omega, by omega, by omega, by omega⟩
  have w1' : whileV (fun st => X8_measureFrom_L38 kd nr st.1 st.2.1 st.2.2.1 st.2.2.2.1 st.2.2.2.2.1 st.2.2.2.2.2.1 st.2.2.2.2.2.2.1 st.2.2.2.2.2.2.2) (nI m1, nI m2, len', sla', str', 0, 0, 0) = some r := w1
  have e1' : X8_stepFrom 0 0 (upd g f 0) sla str kd nr (nI f) = some (nI m1, nI m2, len', sla', str') := e1
  have auf : au g (nI f) 0 = upd g f 0 := au_nI (by omega)
  rcases w2 with ⟨n1, n2, len2, sla2, str2, rfl, w2⟩ | ⟨n1, n2, len2, sla2, str2, rfl, w2⟩
  all_goals
    refine ⟨n1, n2, len2, sla2, str2, ?_, ME_D w2⟩
    unfold X8_measureFrom
    simp only [f1, bnd_some, bnd_none, rmap_some, nm_eq, Sum.elim_inl, Sum.elim_inr, un2_mk, un3_mk, un4_mk, un5_mk, un6_mk, un7_mk, un8_mk, un9_mk, un10_mk, un11_mk, un12_mk, ck_t (ix_nI hf (show 1200 < 2 ^ 31 by decide)), auf, e1', w1']
