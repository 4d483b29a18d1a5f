/-! turns learned; sums -/
def tw (a : Nat) : Nat := if a % 2 = 0 then a + 1 else a - 1
theorem tw_nI (a : Nat) : nI a ^^^ 1 = nI (tw a) := nI_x1 a
theorem tw_lt {a m : Nat} (h : a < 2 * m) : tw a < 2 * m := by unfold tw; split <;> omega
theorem tw_tw (a : Nat) : tw (tw a) = a := by unfold tw; split <;> split <;> omega
theorem tw_div (a : Nat) : tw a / 2 = a / 2 := by unfold tw; split <;> omega
def DB (D : Nat → Nat → Nat) (m : Nat) : Prop := ∀ f t, f < 2 * m → t < 2 * m → D f t ≤ 16807 ∨ D f t = 1000000
theorem DB_of {kd : Ar} {E : Nat → Nat} {D : Nat → Nat → Nat} {m : Nat} (h : ∀ f t, f < 2 * m → t < 2 * m → Dst kd (E f) (E t) (D f t)) : DB D m := fun f t hf ht => by
  rcases h f t hf ht with ⟨_, b⟩ | ⟨_, b, _⟩ | ⟨_, b, _⟩ <;> omega
def LenOK (len : Ar) (D : Nat → Nat → Nat) (m : Nat) : Prop := ∀ f t, f < 2 * m → t < 2 * m → len (120 * f + t) = nI (D f t)
def TurOK (tu : Ar) (D : Nat → Nat → Nat) (m : Nat) : Prop := ∀ f t, f < 2 * m → t < 2 * m → tu (120 * f + t) = tnv (D f t)
theorem t120 (f t : Nat) : (120 : Int32) * nI f + nI t = nI (120 * f + t) := by rw [show (120 : Int32) * nI f = nI (120 * f) from pk_mul 120 f, nI_add]
theorem length_ok {len : Ar} {D : Nat → Nat → Nat} {m f t : Nat} (h : LenOK len D m) (hm : m ≤ 60) (hf : f < 2 * m) (ht : t < 2 * m) : X7_length len (nI f) (nI t) = some (nI (D f t)) := by
  unfold X7_length
  rw [t120, ck_t (ix_nI (by omega) (by decide)), ag_nI (by omega), h f t hf ht]
theorem turnOf_ok {tu : Ar} {D : Nat → Nat → Nat} {m f t : Nat} (h : TurOK tu D m) (hm : m ≤ 60) (hf : f < 2 * m) (ht : t < 2 * m) : X10_turnOf tu (nI f) (nI t) = some (tnv (D f t)) := by
  unfold X10_turnOf
  rw [t120, ck_t (ix_nI (by omega) (by decide)), ag_nI (by omega), h f t hf ht]
theorem tnv_f {v : Nat} (h : v ≤ 16807) : tnv v = nI v := by unfold tnv; rw [if_neg (by omega)]
theorem tnv_n : tnv 1000000 = -1 := rfl
/-- what is known of the turns -/
def Kn (kn len : Ar) (D : Nat → Nat → Nat) (m : Nat) : Prop := ∀ f, f < 2 * m → kn f = 0 ∨ (kn f = 1 ∧ ∀ t, t < 2 * m → len (120 * f + t) = nI (D f t))
theorem learn_ok {kd nr en kn len : Ar} {E : Nat → Nat} {D : Nat → Nat → Nat} {m f : Nat} (hnr : NearOK kd nr) (hm : m ≤ 60) (hE : ∀ k, k < 2 * m → en k = nI (E k) ∧ E k < 1200 ∧ kd (E k) = 2) (hD : ∀ f t, f < 2 * m → t < 2 * m → Dst kd (E f) (E t) (D f t)) (hK : Kn kn len D m) (hf : f < 2 * m) (s1 s2 : Int32) (wl sla str : Ar) :
    ∃ kn' len' s1' s2' wl' sla' str', X7_learn kn len (nI m) s1 s2 en wl sla str kd nr (nI f) = some (kn', len', s1', s2', wl', sla', str') ∧ Kn kn' len' D m ∧ kn' f = 1 ∧ ∀ j, j < 2 * m → kn j = 1 → kn' j = 1 := by
  have tm : (2 : Int32) * nI m = nI (2 * m) := pk_mul 2 m
  have a0 : ag kn (nI f) = kn f := ag_nI (by omega)
  have i0 := ix_nI (show f < 120 by omega) (show 120 < 2 ^ 31 by decide)
  rcases hK f hf with z | ⟨z, z2⟩
  · obtain ⟨e1, e2, e3⟩ := hE f hf
    have a1 : ag en (nI f) = nI (E f) := by rw [ag_nI (by omega), e1]
    obtain ⟨n1, n2, wl', sla', str', w1, L, w2⟩ := measure_ok hnr e2 s1 s2 wl sla str
    obtain ⟨len', h1, h2, h3⟩ := whileV_up (body := fun s => X7_learn_L28 (nI m) en wl' (nI f) s.1 s.2) (2 * m)
      (fun k s => s.2 = nI k ∧ (∀ t, t < k → s.1 (120 * f + t) = nI (D f t)) ∧ ∀ j, (∀ t, t < 2 * m → j ≠ 120 * f + t) → s.1 j = len j)
      (fun r => (∀ t, t < 2 * m → r (120 * f + t) = nI (D f t)) ∧ ∀ j, (∀ t, t < 2 * m → j ≠ 120 * f + t) → r j = len j)
      (fun k s hk hs => by
        obtain ⟨g, i⟩ := s
        obtain ⟨rfl, q1, q2⟩ := hs
        dsimp only at q1 q2
        left
        obtain ⟨c1, c2, c3⟩ := hE k hk
        have a1 : ag en (nI k) = nI (E k) := by rw [ag_nI (by omega), c1]
        have lk := w2 (E k) c2
        have dk : L (E k) = D f k := Dst_fun (lk.2 (by rw [c3]; decide)) (hD f k hf hk)
        have a2 : ag wl' (nI (E k)) = nI (D f k) := by rw [ag_nI (by omega), lk.1, dk]
        have au1 : ∀ x, au g (nI (120 * f + k)) x = upd g (120 * f + k) x := fun x => au_nI (by omega)
        refine ⟨(upd g (120 * f + k) (nI (D f k)), nI (k + 1)), ?_, rfl, fun t ht => ?_, fun j hj => ?_⟩
        · show X7_learn_L28 (nI m) en wl' (nI f) g (nI k) = _
          unfold X7_learn_L28
          simp only [tm, if_neg (nI_ge hk (show 2 * m < 2 ^ 31 by omega)), ck_t (ix_nI (show k < 120 by omega) (show 120 < 2 ^ 31 by decide)), a1, ck_t (ix_nI c2 (show 1200 < 2 ^ 31 by decide)), a2, t120, ck_t (ix_nI (show 120 * f + k < 14400 by omega) (show 14400 < 2 ^ 31 by decide)), au1, nm_eq, nI_1]
        · show upd g (120 * f + k) _ (120 * f + t) = _
          rw [upd_at]
          by_cases e : t = k
          · rw [if_pos (by rw [e]), e]
          · rw [if_neg (by omega)]; exact q1 t (by omega)
        · show upd g (120 * f + k) _ j = _
          rw [upd_at, if_neg (hj k hk)]; exact q2 j hj)
      (fun s hs => by
        obtain ⟨g, i⟩ := s
        obtain ⟨rfl, q⟩ := hs
        refine ⟨g, ?_, q⟩
        show X7_learn_L28 (nI m) en wl' (nI f) g (nI (2 * m)) = _
        unfold X7_learn_L28
        rw [tm, if_pos (nI_le (Nat.le_refl _) (by omega))]) 0 (len, 0) (by omega) ⟨rfl, fun t ht => by omega, fun _ _ => rfl⟩
    have au1 : ∀ x, au kn (nI f) x = upd kn f x := fun x => au_nI (by omega)
    have v1 : vp_nar .boolean 1 = 1 := by decide
    refine ⟨upd kn f 1, len', n1, n2, wl', sla', str', ?_, fun g hg => ?_, by rw [upd_at, if_pos rfl], fun j hj e => ?_⟩
    · unfold X7_learn
      simp only [ck_t i0, a0, z, if_true, a1, w1, bnd_some, bnd_none, rmap_some, nm_eq, Sum.elim_inl, Sum.elim_inr, un2_mk, un3_mk, un4_mk, un5_mk, un6_mk, un7_mk, un8_mk, un9_mk, un10_mk, un11_mk, un12_mk, h1, v1, au1]
    · rw [upd_at]
      by_cases e : g = f
      · right
        rw [if_pos e, e]
        exact ⟨rfl, h2⟩
      · rw [if_neg e]
        rcases hK g hg with y | ⟨y, y2⟩
        · exact Or.inl y
        · refine Or.inr ⟨y, fun t ht => ?_⟩
          rw [h3 _ (fun t' ht' => by omega)]
          exact y2 t ht
    · rw [upd_at]
      by_cases c : j = f
      · rw [if_pos c]
      · rw [if_neg c]; exact e
  · refine ⟨kn, len, s1, s2, wl, sla, str, ?_, hK, z, fun j _ e => e⟩
    unfold X7_learn
    simp only [ck_t i0, a0, z, if_neg (show ¬ (1 : Int32) = 0 by decide)]
theorem learnAll_ok {kd nr en kn len : Ar} {E : Nat → Nat} {D : Nat → Nat → Nat} {m : Nat} (hnr : NearOK kd nr) (hm : m ≤ 60) (hE : ∀ k, k < 2 * m → en k = nI (E k) ∧ E k < 1200 ∧ kd (E k) = 2) (hD : ∀ f t, f < 2 * m → t < 2 * m → Dst kd (E f) (E t) (D f t)) (hK : Kn kn len D m) (s1 s2 : Int32) (wl sla str : Ar) :
    ∃ kn' len' s1' s2' wl' sla' str', X7_learnAll kn len (nI m) s1 s2 en wl sla str kd nr = some (kn', len', s1', s2', wl', sla', str') ∧ Kn kn' len' D m ∧ LenOK len' D m := by
  have tm : (2 : Int32) * nI m = nI (2 * m) := pk_mul 2 m
  obtain ⟨⟨kn', len', s1', s2', wl', sla', str'⟩, h1, h2, h3⟩ := whileV_up (body := fun s => X7_learnAll_L2 (nI m) en kd nr s.1 s.2.1 s.2.2.1 s.2.2.2.1 s.2.2.2.2.1 s.2.2.2.2.2.1 s.2.2.2.2.2.2.1 s.2.2.2.2.2.2.2) (2 * m)
    (fun k s => s.2.2.2.2.2.2.2 = nI k ∧ Kn s.1 s.2.1 D m ∧ ∀ j, j < k → s.1 j = 1)
    (fun r => Kn r.1 r.2.1 D m ∧ ∀ j, j < 2 * m → r.1 j = 1)
    (fun k s hk hs => by
      obtain ⟨kn, len, s1, s2, wl, sla, str, i⟩ := s
      obtain ⟨rfl, q1, q2⟩ := hs
      dsimp only at q1 q2
      left
      obtain ⟨kn', len', s1', s2', wl', sla', str', w1, w2, w3, w4⟩ := learn_ok hnr hm hE hD q1 hk s1 s2 wl sla str
      refine ⟨(kn', len', s1', s2', wl', sla', str', nI (k + 1)), ?_, rfl, w2, fun j hj => ?_⟩
      · show X7_learnAll_L2 (nI m) en kd nr kn len s1 s2 wl sla str (nI k) = _
        unfold X7_learnAll_L2
        simp only [tm, if_neg (nI_ge hk (show 2 * m < 2 ^ 31 by omega)), w1, bnd_some, bnd_none, rmap_some, nm_eq, Sum.elim_inl, Sum.elim_inr, un2_mk, un3_mk, un4_mk, un5_mk, un6_mk, un7_mk, un8_mk, un9_mk, un10_mk, un11_mk, un12_mk, nI_1]
      · by_cases e : j = k
        · rw [e]; exact w3
        · exact w4 j (by omega) (q2 j (by omega)))
    (fun s hs => by
      obtain ⟨kn, len, s1, s2, wl, sla, str, i⟩ := s
      obtain ⟨rfl, q⟩ := hs
      refine ⟨(kn, len, s1, s2, wl, sla, str), ?_, q⟩
      show X7_learnAll_L2 (nI m) en kd nr kn len s1 s2 wl sla str (nI (2 * m)) = _
      unfold X7_learnAll_L2
      rw [tm, if_pos (nI_le (Nat.le_refl _) (by omega))]) 0 (kn, len, s1, s2, wl, sla, str, 0) (by omega) ⟨rfl, hK, fun j hj => by omega⟩
  refine ⟨kn', len', s1', s2', wl', sla', str', ?_, h2, fun f t hf ht => ?_⟩
  · unfold X7_learnAll
    simp only [h1, bnd_some, bnd_none, rmap_some, nm_eq, Sum.elim_inl, Sum.elim_inr, un2_mk, un3_mk, un4_mk, un5_mk, un6_mk, un7_mk, un8_mk, un9_mk, un10_mk, un11_mk, un12_mk]
  · rcases h2 f hf with z | ⟨_, z⟩
    · have e := h3 f hf
      dsimp only at e z
      rw [e] at z; exact absurd z (by decide)
    · exact z t ht
/-- the least of some, at most 1000000 -/
def mnT (g : Nat → Nat) (p : Nat → Bool) : Nat → Nat
  | 0 => 1000000
  | n + 1 => if p n = true then min (mnT g p n) (g n) else mnT g p n
theorem mnT_s (g : Nat → Nat) (p : Nat → Bool) (n : Nat) : mnT g p (n + 1) = if p n = true then min (mnT g p n) (g n) else mnT g p n := rfl
theorem mnT_le (g : Nat → Nat) (p : Nat → Bool) (n : Nat) : mnT g p n ≤ 1000000 := by
  induction n with
  | zero => exact Nat.le_refl _
  | succ n ih => rw [mnT_s]; split <;> omega
theorem mnT_bd {g : Nat → Nat} {p : Nat → Bool} {n B : Nat} (h : ∀ t, t < n → p t = true → g t ≤ B ∨ 1000000 ≤ g t) : mnT g p n ≤ B ∨ mnT g p n = 1000000 := by
  induction n with
  | zero => exact Or.inr rfl
  | succ n ih =>
    have := ih (fun t ht => h t (by omega))
    rw [mnT_s]
    split
    · next c => have := h n (by omega) c; omega
    · exact this
theorem mnT_congr {g g' : Nat → Nat} {p p' : Nat → Bool} {n : Nat} (h : ∀ t, t < n → p t = p' t ∧ (p t = true → g t = g' t)) : mnT g p n = mnT g' p' n := by
  induction n with
  | zero => rfl
  | succ n ih =>
    rw [mnT_s, mnT_s, ih (fun t ht => h t (by omega)), ← (h n (by omega)).1]
    by_cases c : p n = true
    · rw [if_pos c, if_pos c, (h n (by omega)).2 c]
    · rw [if_neg c, if_neg c]
theorem div2 {a : Nat} (h : a < 2 ^ 31) : nI a / 2 = nI (a / 2) := pk_div (d := 2) h (by decide) (by decide)
theorem leastFrom_ok {len : Ar} {D : Nat → Nat → Nat} {m f : Nat} (h : LenOK len D m) (hb : DB D m) (hm : m ≤ 60) (hf : f < 2 * m) : X7_leastFrom len (nI m) (nI f) = some (nI (mnT (D f) (fun t => decide (t / 2 ≠ f / 2)) (2 * m))) := by
  have tm : (2 : Int32) * nI m = nI (2 * m) := pk_mul 2 m
  obtain ⟨r, h1, h2⟩ := whileV_up (body := fun s => X7_leastFrom_L5 len (nI m) (nI f) s.1 s.2) (2 * m)
    (fun k s => s = (nI (mnT (D f) (fun t => decide (t / 2 ≠ f / 2)) k), nI k)) (fun r => r = nI (mnT (D f) (fun t => decide (t / 2 ≠ f / 2)) (2 * m)))
    (fun k s hk hs => by
      subst hs
      left
      refine ⟨_, ?_, rfl⟩
      show X7_leastFrom_L5 len (nI m) (nI f) (nI (mnT (D f) (fun t => decide (t / 2 ≠ f / 2)) k)) (nI k) = _
      unfold X7_leastFrom_L5 X7_leastFrom_b5_38
      rw [tm, if_neg (nI_ge hk (show 2 * m < 2 ^ 31 by omega)), div2 (by omega), div2 (by omega), mnT_s]
      by_cases c : k / 2 = f / 2
      · rw [if_pos (by rw [c]), if_neg (by rw [decide_eq_true_eq]; exact fun q => q c), nm_eq, nI_1]
      · have l1 := mnT_le (D f) (fun t => decide (t / 2 ≠ f / 2)) k
        have l2 := hb f k hf hk
        rw [if_neg (nI_ne (by omega) (by omega) c), if_pos (decide_eq_true c), length_ok h hm hf hk, bnd_some, nm_eq, nm_eq, nI_1, mn_nI (by omega) (by omega)])
    (fun s hs => by
      subst hs
      refine ⟨_, ?_, rfl⟩
      show X7_leastFrom_L5 len (nI m) (nI f) (nI (mnT (D f) (fun t => decide (t / 2 ≠ f / 2)) (2 * m))) (nI (2 * m)) = _
      unfold X7_leastFrom_L5
      rw [tm, if_pos (nI_le (Nat.le_refl _) (by omega))]) 0 (1000000, 0) (by omega) rfl
  unfold X7_leastFrom
  rw [h1, bnd_some, h2]
def rf (x : Nat) : Nat := if x = 1000000 then 100000000 else x
theorem rf_min {c d : Nat} (hc : c ≤ 1000000) (hd : d ≤ 16807) : min (rf c) d = rf (min c d) := by unfold rf; split <;> split <;> omega
theorem bound71 {tu : Ar} {D : Nat → Nat → Nat} {m f r c : Nat} (h : TurOK tu D m) (hb : DB D m) (hm : m ≤ 60) (hf : f < 2 * m) (hr : f / 2 = r) (hc : c ≤ 1000000) (v1 v2 : Int32) : whileV (fun s => X10_bound_L71 (nI m) tu v1 v2 (nI r) (nI f) s.1 s.2) (nI (rf c), 0) = some (nI (rf (min c (mnT (D f) (fun t => decide (t / 2 ≠ f / 2)) (2 * m))))) := by
  have tm : (2 : Int32) * nI m = nI (2 * m) := pk_mul 2 m
  obtain ⟨x, h1, h2⟩ := whileV_up (body := fun s => X10_bound_L71 (nI m) tu v1 v2 (nI r) (nI f) s.1 s.2) (2 * m)
    (fun k s => s = (nI (rf (min c (mnT (D f) (fun t => decide (t / 2 ≠ f / 2)) k))), nI k)) (fun x => x = nI (rf (min c (mnT (D f) (fun t => decide (t / 2 ≠ f / 2)) (2 * m)))))
    (fun k s hk hs => by
      subst hs
      left
      refine ⟨_, ?_, rfl⟩
      show X10_bound_L71 (nI m) tu v1 v2 (nI r) (nI f) (nI (rf (min c (mnT (D f) (fun t => decide (t / 2 ≠ f / 2)) k)))) (nI k) = _
      have l1 := mnT_le (D f) (fun t => decide (t / 2 ≠ f / 2)) k
      unfold X10_bound_L71 X10_bound_b71_116
      rw [tm, if_neg (nI_ge hk (show 2 * m < 2 ^ 31 by omega)), div2 (by omega), mnT_s]
      by_cases e : k / 2 = f / 2
      · rw [if_pos (by rw [e, hr]), if_neg (by rw [decide_eq_true_eq]; exact fun q => q e), nm_eq, nI_1]
      · rw [if_neg (nI_ne (by omega) (by omega) (by omega)), if_pos (decide_eq_true e), turnOf_ok h hm hf hk, bnd_some]
        rcases hb f k hf hk with q | q
        · have rl : rf (min c (mnT (D f) (fun t => decide (t / 2 ≠ f / 2)) k)) ≤ 100000000 := by unfold rf; split <;> omega
          rw [tnv_f q, if_neg (show ¬ nI (D f k) < 0 from nI_nlt (Nat.zero_le _) (by omega)), bnd_some, nm_eq, nm_eq, nI_1, mn_nI (by omega) (by omega), rf_min (by omega) q, Nat.min_assoc]
        · rw [q, tnv_n, if_pos (by decide), nm_eq, nI_1, Nat.min_eq_left l1])
    (fun s hs => by
      subst hs
      refine ⟨_, ?_, rfl⟩
      show X10_bound_L71 (nI m) tu v1 v2 (nI r) (nI f) (nI (rf (min c (mnT (D f) (fun t => decide (t / 2 ≠ f / 2)) (2 * m))))) (nI (2 * m)) = _
      unfold X10_bound_L71
      rw [tm, if_pos (nI_le (Nat.le_refl _) (by omega))]) 0 (nI (rf c), 0) (by omega) (by
        show (nI (rf c), (0 : Int32)) = (nI (rf (min c 1000000)), nI 0)
        rw [Nat.min_eq_left hc]; rfl)
  rw [h1, h2]
def lstR (D : Nat → Nat → Nat) (m r : Nat) : Nat := min (mnT (D (2 * r)) (fun t => decide (t / 2 ≠ (2 * r) / 2)) (2 * m)) (mnT (D (2 * r + 1)) (fun t => decide (t / 2 ≠ (2 * r + 1) / 2)) (2 * m))
def sB (D : Nat → Nat → Nat) (m : Nat) : Nat → Nat
  | 0 => 0
  | k + 1 => sB D m k + lstR D m k
def gB (D : Nat → Nat → Nat) (m : Nat) : Nat → Nat
  | 0 => 0
  | k + 1 => max (gB D m k) (lstR D m k)
theorem lstR_bd {D : Nat → Nat → Nat} {m r : Nat} (hb : DB D m) (hr : r < m) : lstR D m r ≤ 16807 ∨ lstR D m r = 1000000 := by
  have a := mnT_bd (g := D (2 * r)) (p := fun t => decide (t / 2 ≠ (2 * r) / 2)) (n := 2 * m) (B := 16807) (fun t ht _ => by have := hb (2 * r) t (by omega) ht; omega)
  have b := mnT_bd (g := D (2 * r + 1)) (p := fun t => decide (t / 2 ≠ (2 * r + 1) / 2)) (n := 2 * m) (B := 16807) (fun t ht _ => by have := hb (2 * r + 1) t (by omega) ht; omega)
  unfold lstR
  omega
theorem sB_bd {D : Nat → Nat → Nat} {m : Nat} (hb : DB D m) : ∀ k, k ≤ m → (∀ r, r < k → lstR D m r ≠ 1000000) → gB D m k ≤ 16807 ∧ gB D m k ≤ sB D m k ∧ sB D m k ≤ 16807 * k ∧ (0 < k → sB D m k + 16807 ≤ gB D m k + 16807 * k) := by
  intro k
  induction k with
  | zero => intro _ _; exact ⟨Nat.zero_le _, Nat.le_refl _, Nat.le_refl _, fun h => by omega⟩
  | succ k ih =>
    intro hk hr
    have I := ih (by omega) (fun r hr' => hr r (by omega))
    have l := lstR_bd hb (show k < m by omega)
    have l2 := hr k (by omega)
    show max (gB D m k) (lstR D m k) ≤ 16807 ∧ max (gB D m k) (lstR D m k) ≤ sB D m k + lstR D m k ∧ sB D m k + lstR D m k ≤ 16807 * (k + 1) ∧ (0 < k + 1 → sB D m k + lstR D m k + 16807 ≤ max (gB D m k) (lstR D m k) + 16807 * (k + 1))
    by_cases k0 : k = 0
    · subst k0
      have e1 : gB D m 0 = 0 := rfl
      have e2 : sB D m 0 = 0 := rfl
      omega
    · have := I.2.2.2 (by omega)
      omega
theorem leastOfAll_ok {len : Ar} {D : Nat → Nat → Nat} {m : Nat} (h : LenOK len D m) (hb : DB D m) (hm : m ≤ 60) (h2 : 2 ≤ m) : ((∀ r, r < m → lstR D m r ≠ 1000000) ∧ X7_leastOfAll len (nI m) = some (nI (sB D m m - gB D m m))) ∨ (¬ (∀ r, r < m → lstR D m r ≠ 1000000) ∧ X7_leastOfAll len (nI m) = some 1000000) := by
  obtain ⟨x, h1, h3⟩ := whileV_up (body := fun s => X7_leastOfAll_L19 len (nI m) s.1 s.2.1 s.2.2) m
    (fun k s => s = (nI (sB D m k), nI (gB D m k), nI k) ∧ ∀ r, r < k → lstR D m r ≠ 1000000) (fun x => ((∀ r, r < m → lstR D m r ≠ 1000000) ∧ x = .inl (nI (sB D m m), nI (gB D m m))) ∨ (¬ (∀ r, r < m → lstR D m r ≠ 1000000) ∧ x = .inr ()))
    (fun k s hk hs => by
      obtain ⟨rfl, q⟩ := hs
      have l := lstR_bd hb hk
      have tk : (2 : Int32) * nI k = nI (2 * k) := pk_mul 2 k
      have f1 := leastFrom_ok h hb hm (f := 2 * k) (by omega)
      have f2 := leastFrom_ok h hb hm (f := 2 * k + 1) (by omega)
      have l1 := mnT_le (D (2 * k)) (fun t => decide (t / 2 ≠ (2 * k) / 2)) (2 * m)
      have l2 := mnT_le (D (2 * k + 1)) (fun t => decide (t / 2 ≠ (2 * k + 1) / 2)) (2 * m)
      have B := sB_bd hb k (by omega) q
      have body : X7_leastOfAll_L19 len (nI m) (nI (sB D m k)) (nI (gB D m k)) (nI k) = if nI (lstR D m k) < 1000000 then some (.inl (nI (sB D m (k + 1)), nI (gB D m (k + 1)), nI (k + 1))) else some (.inr (.inr ())) := by
        unfold X7_leastOfAll_L19
        rw [if_neg (nI_ge hk (by omega)), tk, nI_1, f1, bnd_some, f2, bnd_some, nm_eq, mn_nI (by omega) (by omega)]
        show (if nI (lstR D m k) < 1000000 then _ else _) = _
        rw [show min (mnT (D (2 * k)) (fun t => decide (t / 2 ≠ (2 * k) / 2)) (2 * m)) (mnT (D (2 * k + 1)) (fun t => decide (t / 2 ≠ (2 * k + 1) / 2)) (2 * m)) = lstR D m k from rfl, nm_eq, nm_eq, nm_eq, nI_add, nI_1, mx_nI (by omega) (by omega)]
        rfl
      by_cases c : lstR D m k = 1000000
      · right
        refine ⟨.inr (), ?_, Or.inr ⟨fun z => z k hk c, rfl⟩⟩
        show X7_leastOfAll_L19 len (nI m) (nI (sB D m k)) (nI (gB D m k)) (nI k) = _
        rw [body, c, if_neg (by decide)]
      · left
        refine ⟨_, ?_, rfl, fun r hr => ?_⟩
        · show X7_leastOfAll_L19 len (nI m) (nI (sB D m k)) (nI (gB D m k)) (nI k) = _
          rw [body, if_pos (show nI (lstR D m k) < 1000000 from nI_lt (b := 1000000) (by omega) (by decide))]
        · by_cases e : r = k
          · rw [e]; exact c
          · exact q r (by omega))
    (fun s hs => by
      obtain ⟨rfl, q⟩ := hs
      refine ⟨.inl (nI (sB D m m), nI (gB D m m)), ?_, Or.inl ⟨q, rfl⟩⟩
      show X7_leastOfAll_L19 len (nI m) (nI (sB D m m)) (nI (gB D m m)) (nI m) = _
      unfold X7_leastOfAll_L19
      rw [if_pos (nI_le (Nat.le_refl _) (by omega))]) 0 (0, 0, 0) (by omega) ⟨rfl, fun r hr => by omega⟩
  unfold X7_leastOfAll
  rw [if_pos (show (2 : Int32) ≤ nI m from nI_le (a := 2) h2 (by omega)), h1, bnd_some]
  rcases h3 with ⟨q, rfl⟩ | ⟨q, rfl⟩
  · left
    refine ⟨q, ?_⟩
    have B := sB_bd hb m (Nat.le_refl m) q
    rw [Sum.elim_inl, un2_mk, pk_sub B.2.1]
  · right
    exact ⟨q, by rw [Sum.elim_inr]⟩
theorem boundR_ok {tu : Ar} {D : Nat → Nat → Nat} {m : Nat} (h : TurOK tu D m) (hb : DB D m) (hm : m ≤ 60) : ((∀ r, r < m → lstR D m r ≠ 1000000) ∧ whileV (fun s => X10_bound_L41 (nI m) tu s.1 s.2.1 s.2.2) (0, 0, 0) = some (.inl (nI (sB D m m), nI (gB D m m)))) ∨ (¬ (∀ r, r < m → lstR D m r ≠ 1000000) ∧ whileV (fun s => X10_bound_L41 (nI m) tu s.1 s.2.1 s.2.2) (0, 0, 0) = some (.inr ())) := by
  obtain ⟨x, h1, h3⟩ := whileV_up (body := fun s => X10_bound_L41 (nI m) tu s.1 s.2.1 s.2.2) m
    (fun k s => s = (nI (sB D m k), nI (gB D m k), nI k) ∧ ∀ r, r < k → lstR D m r ≠ 1000000) (fun x => ((∀ r, r < m → lstR D m r ≠ 1000000) ∧ x = .inl (nI (sB D m m), nI (gB D m m))) ∨ (¬ (∀ r, r < m → lstR D m r ≠ 1000000) ∧ x = .inr ()))
    (fun k s hk hs => by
      obtain ⟨rfl, q⟩ := hs
      have l := lstR_bd hb hk
      have tk : (2 : Int32) * nI k = nI (2 * k) := pk_mul 2 k
      have two : nI (2 * k) + 2 = nI (2 * k + 2) := nI_add (2 * k) 2
      have l1 := mnT_le (D (2 * k)) (fun t => decide (t / 2 ≠ (2 * k) / 2)) (2 * m)
      have B := sB_bd hb k (by omega) q
      have W : whileV (fun s => X10_bound_L58 (nI m) tu (nI (sB D m k)) (nI (gB D m k)) (nI k) s.1 s.2) (100000000, nI (2 * k)) = some (nI (rf (lstR D m k))) := by
        refine whileV_to (s' := (nI (rf (mnT (D (2 * k)) (fun t => decide (t / 2 ≠ (2 * k) / 2)) (2 * m))), nI (2 * k + 1))) ?_ (whileV_to (s' := (nI (rf (lstR D m k)), nI (2 * k + 2))) ?_ (whileV_end ?_))
        · show X10_bound_L58 (nI m) tu (nI (sB D m k)) (nI (gB D m k)) (nI k) (nI (rf 1000000)) (nI (2 * k)) = _
          unfold X10_bound_L58
          rw [tk, two, if_neg (nI_ge (by omega) (by omega)), bound71 h hb hm (f := 2 * k) (by omega) (by omega) (Nat.le_refl _), bnd_some, nm_eq, nI_1, Nat.min_eq_right l1]
        · show X10_bound_L58 (nI m) tu (nI (sB D m k)) (nI (gB D m k)) (nI k) (nI (rf (mnT (D (2 * k)) (fun t => decide (t / 2 ≠ (2 * k) / 2)) (2 * m)))) (nI (2 * k + 1)) = _
          unfold X10_bound_L58
          rw [tk, two, if_neg (nI_ge (by omega) (by omega)), bound71 h hb hm (f := 2 * k + 1) (by omega) (by omega) l1, bnd_some, nm_eq, nI_1]
          rfl
        · show X10_bound_L58 (nI m) tu (nI (sB D m k)) (nI (gB D m k)) (nI k) (nI (rf (lstR D m k))) (nI (2 * k + 2)) = _
          unfold X10_bound_L58
          rw [tk, two, if_pos (nI_le (Nat.le_refl _) (by omega))]
      by_cases c : lstR D m k = 1000000
      · right
        refine ⟨.inr (), ?_, Or.inr ⟨fun z => z k hk c, rfl⟩⟩
        show X10_bound_L41 (nI m) tu (nI (sB D m k)) (nI (gB D m k)) (nI k) = _
        unfold X10_bound_L41
        rw [if_neg (nI_ge hk (by omega)), nm_eq, tk, W, bnd_some, c, if_pos (by decide)]
      · left
        have rl : rf (lstR D m k) = lstR D m k := by unfold rf; rw [if_neg c]
        refine ⟨(nI (sB D m (k + 1)), nI (gB D m (k + 1)), nI (k + 1)), ?_, rfl, fun r hr => ?_⟩
        · show X10_bound_L41 (nI m) tu (nI (sB D m k)) (nI (gB D m k)) (nI k) = _
          unfold X10_bound_L41
          rw [if_neg (nI_ge hk (by omega)), nm_eq, tk, W, bnd_some, rl, if_neg (show ¬ nI (lstR D m k) = 100000000 from nI_ne (b := 100000000) (by omega) (by decide) (by omega)), nm_eq, nm_eq, nm_eq, nI_add, nI_1, mx_nI (by omega) (by omega)]
          rfl
        · by_cases e : r = k
          · rw [e]; exact c
          · exact q r (by omega))
    (fun s hs => by
      obtain ⟨rfl, q⟩ := hs
      refine ⟨.inl (nI (sB D m m), nI (gB D m m)), ?_, Or.inl ⟨q, rfl⟩⟩
      show X10_bound_L41 (nI m) tu (nI (sB D m m)) (nI (gB D m m)) (nI m) = _
      unfold X10_bound_L41
      rw [if_pos (nI_le (Nat.le_refl _) (by omega))]) 0 (0, 0, 0) (by omega) ⟨rfl, fun r hr => by omega⟩
  rcases h3 with ⟨q, rfl⟩ | ⟨q, rfl⟩
  · exact Or.inl ⟨q, h1⟩
  · exact Or.inr ⟨q, h1⟩
