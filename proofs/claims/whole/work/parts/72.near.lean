/-! the nearest row, again and again -/
theorem sh63 : ∀ k, k < 64 → ((Int32.toInt64 (nI k) &&& 63).toBitVec.smod 64).toNat = k := by decide +kernel
def dB (x : Int64) (r : Nat) : Bool := x.toBitVec.getLsbD r
theorem bit64 {x s : Int64} {r : Nat} (hr : r < 64) (hs : (s.toBitVec.smod 64).toNat = r) : ((x >>> s) &&& 1 = 0) ↔ dB x r = false := by
  have e : (x >>> s).toBitVec = x.toBitVec.sshiftRight r := by
    show x.toBitVec.sshiftRight (s.toBitVec.smod 64).toNat = _
    rw [hs]
  have key : (x.toBitVec.sshiftRight r).getLsbD 0 = x.toBitVec.getLsbD r := by
    rw [BitVec.getLsbD_sshiftRight, if_pos (show r + 0 < 64 by omega)]
    rfl
  have one0 : BitVec.getLsbD (1 : Int64).toBitVec 0 = true := by decide
  rw [← Int64.toBitVec_inj, Int64.toBitVec_and, e]
  unfold dB
  rw [← key]
  constructor
  · intro h
    have := congrArg (fun b : BitVec 64 => b.getLsbD 0) h
    rw [BitVec.getLsbD_and, one0, Bool.and_true] at this
    rw [this]
    decide
  · intro h
    apply BitVec.eq_of_getLsbD_eq
    intro i hi
    rw [BitVec.getLsbD_and]
    have z : BitVec.getLsbD (0 : Int64).toBitVec i = false := by
      show (0#64).getLsbD i = false
      rw [BitVec.getLsbD_zero]
    rw [z]
    by_cases c : i = 0
    · subst c
      rw [h]; rfl
    · have : BitVec.getLsbD (1 : Int64).toBitVec i = false := by
        show (1#64).getLsbD i = false
        rw [BitVec.getLsbD_one]
        simp [c]
      rw [this, Bool.and_false]
theorem or64 {x s : Int64} {r q : Nat} (hr : r < 64) (hs : (s.toBitVec.smod 64).toNat = r) (hq : q < 64) : dB (x ||| ((1 : Int64) <<< s)) q = (dB x q || decide (q = r)) := by
  unfold dB
  have e : ((1 : Int64) <<< s).toBitVec = (1#64) <<< r := by
    show (1 : Int64).toBitVec <<< (s.toBitVec.smod 64).toNat = _
    rw [hs]; rfl
  rw [Int64.toBitVec_or, BitVec.getLsbD_or, e, BitVec.getLsbD_shiftLeft, BitVec.getLsbD_one]
  congr 1
  by_cases c : q = r
  · subst c; simp [hq]
  · simp [hq, c]; omega
theorem one64 : ∀ q, q < 64 → dB 1 q = decide (q = 0) := by decide +kernel
theorem isDone64 {x : Int64} {v : Nat} (hv : v < 120) : X3_isDone x (nI v) = some (if dB x (v / 2) = true then 1 else 0) := by
  unfold X3_isDone
  rw [div2 (by omega)]
  have h := bit64 (x := x) (show v / 2 < 64 by omega) (sh63 (v / 2) (by omega))
  have g : ∀ y : Int64, lg_cmp y 0 = 0 ↔ y = 0 := fun y => by
    unfold lg_cmp
    constructor
    · intro q
      by_cases a : y > 0
      · rw [if_pos a] at q; exact absurd q (by decide)
      · rw [if_neg a] at q
        by_cases b : y = 0
        · exact b
        · rw [if_neg b] at q; exact absurd q (by decide)
    · intro q
      subst q
      decide
  by_cases c : dB x (v / 2) = true
  · rw [if_pos c, if_neg (fun e => by rw [h.mp ((g _).mp e)] at c; exact absurd c (by decide))]
  · rw [if_neg c, if_pos ((g _).mpr (h.mpr (by cases z : dB x (v / 2); rfl; exact absurd z c)))]
/-- the first of the least -/
def Fst (g : Nat → Nat) (p : Nat → Bool) (k : Nat) (v : Int32) : Prop := (mnT g p k = 1000000 ∧ v = -1) ∨ ∃ t, t < k ∧ v = nI t ∧ p t = true ∧ g t = mnT g p k ∧ mnT g p k < 1000000 ∧ ∀ s, s < t → p s = true → mnT g p k < g s
theorem Fst_fun {g : Nat → Nat} {p : Nat → Bool} {k : Nat} {v v' : Int32} (h : Fst g p k v) (h' : Fst g p k v') : v = v' := by
  rcases h with ⟨a, rfl⟩ | ⟨t, t1, rfl, t2, t3, t4, t5⟩ <;> rcases h' with ⟨a', rfl⟩ | ⟨t', t1', rfl, t2', t3', t4', t5'⟩
  · rfl
  · omega
  · omega
  · rcases Nat.lt_trichotomy t t' with q | q | q
    · have := t5' t q t2; omega
    · rw [q]
    · have := t5 t' q t2'; omega
theorem Fst_skip {g : Nat → Nat} {p : Nat → Bool} {k : Nat} {v : Int32} (h : Fst g p k v) (hp : ¬ p k = true ∨ mnT g p k ≤ g k) : Fst g p (k + 1) v := by
  have e : mnT g p (k + 1) = mnT g p k := by
    rw [mnT_s]
    rcases hp with q | q
    · rw [if_neg q]
    · split
      · exact Nat.min_eq_left q
      · rfl
  unfold Fst
  rw [e]
  rcases h with h | ⟨t, t1, t2⟩
  · exact Or.inl h
  · exact Or.inr ⟨t, by omega, t2⟩
theorem Fst_new {g : Nat → Nat} {p : Nat → Bool} {k : Nat} (hp : p k = true) (hg : g k < mnT g p k) : mnT g p (k + 1) = g k ∧ Fst g p (k + 1) (nI k) := by
  have l := mnT_le g p k
  have e : mnT g p (k + 1) = g k := by rw [mnT_s, if_pos hp, Nat.min_eq_right (by omega)]
  refine ⟨e, Or.inr ⟨k, by omega, rfl, hp, e.symm, by omega, fun s hs h => ?_⟩⟩
  have := mnT_low g p k s hs h
  omega
theorem nearC_ok {len : Ar} {D : Nat → Nat → Nat} {m f : Nat} {x : Int64} {U : Nat → Bool} (h : LenOK len D m) (hb : DB D m) (hm : m ≤ 60) (hf : f < 2 * m) (hU : ∀ r, r < m → dB x r = U r) : ∃ v, X3_nearest len (nI m) x (nI f) = some v ∧ Fst (D f) (fun t => !U (t / 2)) (2 * m) v := by
  have tm : (2 : Int32) * nI m = nI (2 * m) := pk_mul 2 m
  obtain ⟨v, h1, h2⟩ := whileV_up (body := fun s => X3_nearest_L10 len (nI m) x (nI f) s.1 s.2.1 s.2.2) (2 * m)
    (fun k s => s.2.2 = nI k ∧ s.2.1 = nI (mnT (D f) (fun t => !U (t / 2)) k) ∧ Fst (D f) (fun t => !U (t / 2)) k s.1) (fun v => Fst (D f) (fun t => !U (t / 2)) (2 * m) v)
    (fun k s hk hs => by
      obtain ⟨v, y, i⟩ := s
      obtain ⟨rfl, rfl, q⟩ := hs
      dsimp only at q
      left
      have dn := isDone64 (x := x) (show k < 120 by omega)
      rw [hU _ (by omega)] at dn
      have M := mnT_le (D f) (fun t => !U (t / 2)) k
      have d := hb f k hf hk
      have bb : ∀ v y : Int32, X3_nearest_b10_60 (nI m) x (nI f) v y (nI k) = some (.inl (v, y, nI (k + 1))) := fun v y => by unfold X3_nearest_b10_60; rw [nm_eq, nI_1]
      cases c : U (k / 2) with
      | true =>
        rw [c, if_pos rfl] at dn
        have np : ¬ (fun t => !U (t / 2)) k = true := by dsimp only; rw [c]; decide
        refine ⟨(v, nI (mnT (D f) (fun t => !U (t / 2)) k), nI (k + 1)), ?_, rfl, ?_, Fst_skip q (Or.inl np)⟩
        · show X3_nearest_L10 len (nI m) x (nI f) v (nI (mnT (D f) (fun t => !U (t / 2)) k)) (nI k) = _
          unfold X3_nearest_L10
          rw [tm, if_neg (nI_ge hk (by omega)), dn, bnd_some, if_neg (by decide), bb]
        · show nI (mnT (D f) (fun t => !U (t / 2)) k) = _
          rw [mnT_s, if_neg np]
      | false =>
        rw [c, if_neg (by decide)] at dn
        have yp : (fun t => !U (t / 2)) k = true := by dsimp only; rw [c]; rfl
        by_cases le : mnT (D f) (fun t => !U (t / 2)) k ≤ D f k
        · refine ⟨(v, nI (mnT (D f) (fun t => !U (t / 2)) k), nI (k + 1)), ?_, rfl, ?_, Fst_skip q (Or.inr le)⟩
          · show X3_nearest_L10 len (nI m) x (nI f) v (nI (mnT (D f) (fun t => !U (t / 2)) k)) (nI k) = _
            unfold X3_nearest_L10
            rw [tm, if_neg (nI_ge hk (by omega)), dn, bnd_some, if_pos rfl, length_ok h hm hf hk, bnd_some, if_pos (nI_le le (by omega)), bb]
          · show nI (mnT (D f) (fun t => !U (t / 2)) k) = _
            rw [mnT_s, if_pos yp, Nat.min_eq_left le]
        · obtain ⟨n1, n2⟩ := Fst_new yp (show D f k < _ from Nat.lt_of_not_le le)
          refine ⟨(nI k, nI (D f k), nI (k + 1)), ?_, rfl, ?_, n2⟩
          · show X3_nearest_L10 len (nI m) x (nI f) v (nI (mnT (D f) (fun t => !U (t / 2)) k)) (nI k) = _
            unfold X3_nearest_L10
            rw [tm, if_neg (nI_ge hk (by omega)), dn, bnd_some, if_pos rfl, length_ok h hm hf hk, bnd_some, if_neg (nI_ge (by omega) (by omega)), bnd_some, bb]
          · show nI (D f k) = _
            rw [n1])
    (fun s hs => by
      obtain ⟨v, y, i⟩ := s
      obtain ⟨rfl, rfl, q⟩ := hs
      refine ⟨v, ?_, q⟩
      show X3_nearest_L10 len (nI m) x (nI f) v _ (nI (2 * m)) = _
      unfold X3_nearest_L10
      rw [tm, if_pos (nI_le (Nat.le_refl _) (by omega))]) 0 (-1, nI 1000000, 0) (Nat.zero_le _) ⟨rfl, rfl, Or.inl ⟨rfl, rfl⟩⟩
  refine ⟨v, ?_, h2⟩
  have h1' : whileV (fun s => X3_nearest_L10 len (nI m) x (nI f) s.1 s.2.1 s.2.2) (-1, 1000000, 0) = some v := h1
  unfold X3_nearest
  rw [h1', bnd_some]
theorem nearR_ok {tu iu : Ar} {D : Nat → Nat → Nat} {m f : Nat} {U : Nat → Bool} (h : TurOK tu D m) (hb : DB D m) (hm : m ≤ 60) (hf : f < 2 * m) (hU : ∀ r, r < m → iu r = if U r = true then 1 else 0) (v1 : Int32) : ∃ v, whileV (fun s => X10_nearest_L64 (nI m) iu tu v1 (nI f) s.1 s.2) (-1, 0) = some v ∧ Fst (D f) (fun t => !U (t / 2)) (2 * m) v := by
  have tm : (2 : Int32) * nI m = nI (2 * m) := pk_mul 2 m
  obtain ⟨v, h1, h2⟩ := whileV_up (body := fun s => X10_nearest_L64 (nI m) iu tu v1 (nI f) s.1 s.2) (2 * m)
    (fun k s => s.2 = nI k ∧ Fst (D f) (fun t => !U (t / 2)) k s.1) (fun v => Fst (D f) (fun t => !U (t / 2)) (2 * m) v)
    (fun k s hk hs => by
      obtain ⟨v, i⟩ := s
      obtain ⟨rfl, q⟩ := hs
      dsimp only at q
      left
      have a1 : ag iu (nI (k / 2)) = if U (k / 2) = true then 1 else 0 := by rw [ag_nI (by omega), hU _ (by omega)]
      have ic := ix_nI (show k / 2 < 60 by omega) (show 60 < 2 ^ 31 by decide)
      have M := mnT_le (D f) (fun t => !U (t / 2)) k
      have d := hb f k hf hk
      have bb : ∀ v : Int32, X10_nearest_b64_123 v1 v (nI f) (nI k) = some (.inl (v, nI (k + 1))) := fun v => by unfold X10_nearest_b64_123; rw [nm_eq, nI_1]
      have b0 : X10_nearest_b64_120 v1 (nI f) (nI k) = some (.inl (nI k, nI (k + 1))) := bb _
      have t1 := turnOf_ok h hm hf hk
      cases c : U (k / 2) with
      | true =>
        rw [c, if_pos rfl] at a1
        have np : ¬ (fun t => !U (t / 2)) k = true := by dsimp only; rw [c]; decide
        refine ⟨(v, nI (k + 1)), ?_, rfl, Fst_skip q (Or.inl np)⟩
        show X10_nearest_L64 (nI m) iu tu v1 (nI f) v (nI k) = _
        unfold X10_nearest_L64
        rw [tm, if_neg (nI_ge hk (by omega)), div2 (by omega), ck_t ic, a1, if_neg (by decide), bb]
      | false =>
        rw [c, if_neg (by decide)] at a1
        have yp : (fun t => !U (t / 2)) k = true := by dsimp only; rw [c]; rfl
        have pre' : X10_nearest_L64 (nI m) iu tu v1 (nI f) v (nI k) = if 0 ≤ tnv (D f k) then (if v < 0 then (X10_nearest_b64_120 v1 (nI f) (nI k)) else (bnd (X10_turnOf tu (nI f) (nI k)) <| fun r_108 => bnd (X10_turnOf tu (nI f) v) <| fun r_114 => if r_114 ≤ r_108 then (X10_nearest_b64_123 v1 v (nI f) (nI k)) else (X10_nearest_b64_120 v1 (nI f) (nI k)))) else (X10_nearest_b64_123 v1 v (nI f) (nI k)) := by
          unfold X10_nearest_L64
          rw [tm, if_neg (nI_ge hk (by omega)), div2 (by omega), ck_t ic, a1, if_pos rfl, t1, bnd_some]
        rcases d with d | d
        · rw [tnv_f d, if_pos (show (0 : Int32) ≤ nI (D f k) from nI_le (a := 0) (Nat.zero_le _) (by omega))] at pre'
          by_cases le : mnT (D f) (fun t => !U (t / 2)) k ≤ D f k
          · refine ⟨(v, nI (k + 1)), ?_, rfl, Fst_skip q (Or.inr le)⟩
            show X10_nearest_L64 (nI m) iu tu v1 (nI f) v (nI k) = _
            rcases q with ⟨z, _⟩ | ⟨t, t1', rfl, t2, t3, t4, t5⟩
            · omega
            · have tl : t < 2 * m := by omega
              have dt : D f t ≤ 16807 := by have := hb f t hf tl; omega
              rw [pre', if_neg (show ¬ nI t < 0 from nI_nlt (Nat.zero_le _) (by omega)), t1, bnd_some, turnOf_ok h hm hf tl, bnd_some, tnv_f d, tnv_f dt, if_pos (nI_le (by omega) (by omega)), bb]
          · obtain ⟨n1, n2⟩ := Fst_new yp (show D f k < _ from Nat.lt_of_not_le le)
            refine ⟨(nI k, nI (k + 1)), ?_, rfl, n2⟩
            show X10_nearest_L64 (nI m) iu tu v1 (nI f) v (nI k) = _
            rcases q with ⟨_, rfl⟩ | ⟨t, t1', rfl, t2, t3, t4, t5⟩
            · rw [pre', if_pos (by decide), b0]
            · have tl : t < 2 * m := by omega
              have dt : D f t ≤ 16807 := by have := hb f t hf tl; omega
              rw [pre', if_neg (show ¬ nI t < 0 from nI_nlt (Nat.zero_le _) (by omega)), t1, bnd_some, turnOf_ok h hm hf tl, bnd_some, tnv_f d, tnv_f dt, if_neg (nI_ge (by omega) (by omega)), b0]
        · rw [d, tnv_n, if_neg (by decide), bb] at pre'
          exact ⟨(v, nI (k + 1)), pre', rfl, Fst_skip q (Or.inr (by omega))⟩)
    (fun s hs => by
      obtain ⟨v, i⟩ := s
      obtain ⟨rfl, q⟩ := hs
      refine ⟨v, ?_, q⟩
      show X10_nearest_L64 (nI m) iu tu v1 (nI f) v (nI (2 * m)) = _
      unfold X10_nearest_L64
      rw [tm, if_pos (nI_le (Nat.le_refl _) (by omega))]) 0 (-1, 0) (Nat.zero_le _) ⟨rfl, Or.inl ⟨rfl, rfl⟩⟩
  exact ⟨v, h1, h2⟩
theorem near_sim {len tu : Ar} {D : Nat → Nat → Nat} {m : Nat} (hL : LenOK len D m) (h : TurOK tu D m) (hb : DB D m) (hm : m ≤ 60) :
    ∀ d k (x : Int64) (U : Nat → Bool) (pn pl iu : Ar) (P : Nat → Nat), k + d = m → 0 < k → (∀ r, r < m → dB x r = U r) → (∀ r, r < m → iu r = if U r = true then 1 else 0) → (∀ i, i < k → pn i = nI (P i) ∧ pl i = nI (P i) ∧ P i < 2 * m) → (∀ i, i < k → U (P i / 2) = true) → RowD P k → sP D P k ≤ 16807 * (k - 1) →
    (∃ pn' pl' iu' P', whileV (fun s => X3_goNearest_L13 len (nI m) s.1 s.2.1 s.2.2.1 s.2.2.2) (nI k, pn, x, nI k) = some (.inl (nI m, pn')) ∧ whileV (fun s => X10_nearest_L40 (nI m) tu s.1 s.2.1 s.2.2) (iu, pl, nI k) = some (.inl (iu', pl')) ∧ PlOK pn' P' m ∧ PlOK pl' P' m ∧ sP D P' m ≤ 16807 * (m - 1) ∧ RowD P' m) ∨
    (∃ sz pn' pl' iu', whileV (fun s => X3_goNearest_L13 len (nI m) s.1 s.2.1 s.2.2.1 s.2.2.2) (nI k, pn, x, nI k) = some (.inr (sz, pn')) ∧ whileV (fun s => X10_nearest_L40 (nI m) tu s.1 s.2.1 s.2.2) (iu, pl, nI k) = some (.inr (iu', pl'))) := by
  intro d
  induction d with
  | zero =>
    intro k x U pn pl iu P hd k0 hx hi hP hU hrd hs
    have ek : k = m := by omega
    subst ek
    left
    refine ⟨pn, pl, iu, P, whileV_end ?_, whileV_end ?_, fun i hi => ⟨(hP i hi).1, (hP i hi).2.2⟩, fun i hi => ⟨(hP i hi).2.1, (hP i hi).2.2⟩, hs, hrd⟩
    · show X3_goNearest_L13 len (nI k) (nI k) pn x (nI k) = _
      unfold X3_goNearest_L13
      rw [if_pos (nI_le (Nat.le_refl _) (by omega))]
    · show X10_nearest_L40 (nI k) tu iu pl (nI k) = _
      unfold X10_nearest_L40
      rw [if_pos (nI_le (Nat.le_refl _) (by omega))]
  | succ d ih =>
    intro k x U pn pl iu P hd k0 hx hi hP hU hrd hs
    have km : k < m := by omega
    obtain ⟨p1, p2, p3⟩ := hP (k - 1) (by omega)
    have s1 : nI k - 1 = nI (k - 1) := pk_sub (b := 1) k0
    have a1 : ag pn (nI (k - 1)) = nI (P (k - 1)) := by rw [ag_nI (by omega), p1]
    have a2 : ag pl (nI (k - 1)) = nI (P (k - 1)) := by rw [ag_nI (by omega), p2]
    have ic1 := ix_nI (show k - 1 < 60 by omega) (show 60 < 2 ^ 31 by decide)
    have ick := ix_nI (show k < 60 by omega) (show 60 < 2 ^ 31 by decide)
    obtain ⟨v, x1, x2⟩ := nearC_ok hL hb hm (tw_lt p3) hx
    obtain ⟨v', y1, y2⟩ := nearR_ok h hb hm (tw_lt p3) hi (nI k)
    have ev := Fst_fun y2 x2
    subst ev
    rcases x2 with ⟨_, rfl⟩ | ⟨t, t1, rfl, t2, t3, t4, t5⟩
    · right
      refine ⟨nI k, pn, pl, iu, whileV_end ?_, whileV_end ?_⟩
      · show X3_goNearest_L13 len (nI m) (nI k) pn x (nI k) = _
        unfold X3_goNearest_L13
        rw [if_neg (nI_ge km (by omega)), s1, ck_t ic1, a1, tw_nI, x1, bnd_some, if_pos rfl]
      · show X10_nearest_L40 (nI m) tu iu pl (nI k) = _
        unfold X10_nearest_L40
        rw [if_neg (nI_ge km (by omega)), s1, ck_t ic1, nm_eq, a2, tw_nI, y1, bnd_some, if_neg (by decide)]
    · have au1 : ∀ (f : Ar) y, au f (nI k) y = upd f k y := fun f y => au_nI (by omega)
      have au2 : ∀ y, au iu (nI (t / 2)) y = upd iu (t / 2) y := fun y => au_nI (by omega)
      have vn : vp_nar .boolean 1 = 1 := by decide
      have st1 : X3_goNearest_L13 len (nI m) (nI k) pn x (nI k) = some (.inl (nI (k + 1), upd pn k (nI t), x ||| ((1 : Int64) <<< (Int32.toInt64 (nI (t / 2)) &&& 63)), nI (k + 1))) := by
        unfold X3_goNearest_L13 X2_add
        rw [if_neg (nI_ge km (by omega)), s1, ck_t ic1, a1, tw_nI, x1, bnd_some, if_neg (nI_m1 (by omega)), if_neg (show ¬ (60 : Int32) ≤ nI k from nI_ge (a := k) (b := 60) (by omega) (by decide)), ck_t ick, nm_eq, nm_eq, bnd_some, un2_mk, nm_eq, nm_eq, au1, nI_1, div2 (by omega)]
      have st2 : X10_nearest_L40 (nI m) tu iu pl (nI k) = some (.inl (upd iu (t / 2) 1, upd pl k (nI t), nI (k + 1))) := by
        unfold X10_nearest_L40
        rw [if_neg (nI_ge km (by omega)), s1, ck_t ic1, nm_eq, a2, tw_nI, y1, bnd_some, if_pos (show (0 : Int32) ≤ nI t from nI_le (a := 0) (Nat.zero_le _) (by omega)), ck_t ick, nm_eq, div2 (by omega), ck_t (ix_nI (show t / 2 < 60 by omega) (by decide)), nm_eq, nm_eq, au1, au2, vn, nI_1]
      have dt : D (tw (P (k - 1))) t ≤ 16807 := by have := hb _ _ (tw_lt p3) t1; omega
      have sc : sP D (uN P k t) k = sP D P k := sP_congr (fun i hi => uN_n (by omega))
      have I := ih (k + 1) (x ||| ((1 : Int64) <<< (Int32.toInt64 (nI (t / 2)) &&& 63))) (fun r => U r || decide (r = t / 2)) (upd pn k (nI t)) (upd pl k (nI t)) (upd iu (t / 2) 1) (uN P k t) (by omega) (by omega) (fun r hr => ?_) (fun r hr => ?_) (fun i hi => ?_) (fun i hi => ?_) (fun i j hij hj => ?_) ?_
      · rcases I with ⟨pn2, pl2, iu2, P2, i1, i2, i3⟩ | ⟨sz, pn2, pl2, iu2, i1, i2⟩
        · exact Or.inl ⟨pn2, pl2, iu2, P2, whileV_to st1 i1, whileV_to st2 i2, i3⟩
        · exact Or.inr ⟨sz, pn2, pl2, iu2, whileV_to st1 i1, whileV_to st2 i2⟩
      · rw [or64 (show t / 2 < 64 by omega) (sh63 (t / 2) (by omega)) (show r < 64 by omega), hx r hr]
      · rw [upd_at]
        by_cases e : r = t / 2
        · rw [if_pos e, if_pos (by rw [decide_eq_true e, Bool.or_true])]
        · rw [if_neg e, hi r hr, decide_eq_false e, Bool.or_false]
      · by_cases ei : i = k
        · rw [ei, uN_s, upd_at, if_pos rfl, upd_at, if_pos rfl]; exact ⟨rfl, rfl, t1⟩
        · rw [uN_n ei, upd_at, if_neg ei, upd_at, if_neg ei]; exact hP i (by omega)
      · by_cases ei : i = k
        · rw [ei, uN_s, decide_eq_true rfl, Bool.or_true]
        · rw [uN_n ei, hU i (by omega), Bool.true_or]
      · by_cases ej : j = k
        · rw [ej, uN_s, uN_n (by omega)]
          intro q
          have a := hU i (by omega)
          rw [q] at a
          have t2' : (!U (t / 2)) = true := t2
          rw [a] at t2'
          exact absurd t2' (by decide)
        · rw [uN_n ej, uN_n (by omega)]; exact hrd i j hij (by omega)
      · rw [sP_s, sc, if_neg (by omega), uN_n (by omega), uN_s]
        omega
theorem near_ok {len tu pn pl iu : Ar} {D : Nat → Nat → Nat} {m : Nat} (hL : LenOK len D m) (h : TurOK tu D m) (hb : DB D m) (hm : m ≤ 60) (h1 : 0 < m) :
    (∃ pn' pl' iu' P, X3_goNearest 0 pn len (nI m) = some (1, nI m, pn') ∧ X10_nearest (nI m) iu pl tu = some (1, iu', pl') ∧ PlOK pn' P m ∧ PlOK pl' P m ∧ sP D P m ≤ 16807 * (m - 1) ∧ RowD P m) ∨
    ∃ sz pn' pl' iu', X3_goNearest 0 pn len (nI m) = some (0, sz, pn') ∧ X10_nearest (nI m) iu pl tu = some (0, iu', pl') := by
  have v0 : vp_nar .boolean 0 = 0 := by decide
  have v1 : vp_nar .boolean 1 = 1 := by decide
  obtain ⟨iu1, w1, w2⟩ := whileV_up (body := fun s => X10_nearest_L2 (nI m) s.1 s.2) m
    (fun k s => s.2 = nI k ∧ ∀ r, r < k → s.1 r = if decide (r = 0) = true then 1 else 0) (fun x => ∀ r, r < m → x r = if decide (r = 0) = true then 1 else 0)
    (fun k s hk hs => by
      obtain ⟨g, i⟩ := s
      obtain ⟨rfl, q⟩ := hs
      dsimp only at q
      left
      have au1 : ∀ y, au g (nI k) y = upd g k y := fun y => au_nI (by omega)
      refine ⟨(upd g k (if decide (k = 0) = true then 1 else 0), nI (k + 1)), ?_, rfl, fun r hr => ?_⟩
      · show X10_nearest_L2 (nI m) g (nI k) = _
        unfold X10_nearest_L2 X10_nearest_b2_24
        rw [if_neg (nI_ge hk (by omega))]
        by_cases c : k = 0
        · subst c
          rw [if_pos (show nI 0 = 0 from rfl), ck_t (ix_nI (show 0 < 60 by omega) (by decide)), nm_eq, nm_eq, v1, au1, nI_1, if_pos (by decide)]
        · rw [if_neg (show ¬ nI k = 0 from nI_ne (b := 0) (by omega) (by decide) c), ck_t (ix_nI (show k < 60 by omega) (by decide)), nm_eq, nm_eq, v0, au1, nI_1, if_neg (by rw [decide_eq_true_eq]; exact c)]
      · show upd g k _ r = _
        rw [upd_at]
        by_cases e : r = k
        · rw [if_pos e, e]
        · rw [if_neg e]; exact q r (by omega))
    (fun s hs => by
      obtain ⟨g, i⟩ := s
      obtain ⟨rfl, q⟩ := hs
      refine ⟨g, ?_, q⟩
      show X10_nearest_L2 (nI m) g (nI m) = _
      unfold X10_nearest_L2
      rw [if_pos (nI_le (Nat.le_refl _) (by omega))]) 0 (iu, 0) (Nat.zero_le _) ⟨rfl, fun r hr => by omega⟩
  have S := near_sim hL h hb hm (m - 1) 1 1 (fun r => decide (r = 0)) (upd pn 0 0) (upd pl 0 0) iu1 (fun _ => 0) (by omega) (by omega) (fun r hr => one64 r (by omega)) w2 (fun i hi => by
    have e : i = 0 := by omega
    subst e
    rw [upd_at, if_pos rfl, upd_at, if_pos rfl]
    exact ⟨rfl, rfl, by omega⟩) (fun i hi => rfl) (fun i j hij hj => by omega) (Nat.zero_le _)
  have ad : X2_add 0 pn 0 = some (1, upd pn 0 0) := by
    unfold X2_add
    rw [if_neg (by decide), ck_t (by decide), nm_eq, nm_eq]
    rfl
  have au0 : au pl 0 0 = upd pl 0 0 := rfl
  rcases S with ⟨pn', pl', iu', P', i1, i2, i3⟩ | ⟨sz, pn', pl', iu', i1, i2⟩
  · left
    refine ⟨pn', pl', iu', P', ?_, ?_, i3⟩
    · have i1' : whileV (fun s => X3_goNearest_L13 len (nI m) s.1 s.2.1 s.2.2.1 s.2.2.2) (1, upd pn 0 0, 1, 1) = some (.inl (nI m, pn')) := i1
      unfold X3_goNearest
      simp only [ad, bnd_some, bnd_none, rmap_some, nm_eq, Sum.elim_inl, Sum.elim_inr, un2_mk, un3_mk, un4_mk, un5_mk, un6_mk, un7_mk, un8_mk, un9_mk, un10_mk, un11_mk, un12_mk, i1']
    · have i2' : whileV (fun s => X10_nearest_L40 (nI m) tu s.1 s.2.1 s.2.2) (iu1, upd pl 0 0, 1) = some (.inl (iu', pl')) := i2
      unfold X10_nearest
      simp only [w1, bnd_some, bnd_none, rmap_some, nm_eq, Sum.elim_inl, Sum.elim_inr, un2_mk, un3_mk, un4_mk, un5_mk, un6_mk, un7_mk, un8_mk, un9_mk, un10_mk, un11_mk, un12_mk, ck_t (show ix 0 60 = true by decide), au0, i2']
  · right
    refine ⟨sz, pn', pl', iu', ?_, ?_⟩
    · have i1' : whileV (fun s => X3_goNearest_L13 len (nI m) s.1 s.2.1 s.2.2.1 s.2.2.2) (1, upd pn 0 0, 1, 1) = some (.inr (sz, pn')) := i1
      unfold X3_goNearest
      simp only [ad, bnd_some, bnd_none, rmap_some, nm_eq, Sum.elim_inl, Sum.elim_inr, un2_mk, un3_mk, un4_mk, un5_mk, un6_mk, un7_mk, un8_mk, un9_mk, un10_mk, un11_mk, un12_mk, i1']
    · have i2' : whileV (fun s => X10_nearest_L40 (nI m) tu s.1 s.2.1 s.2.2) (iu1, upd pl 0 0, 1) = some (.inr (iu', pl')) := i2
      unfold X10_nearest
      simp only [w1, bnd_some, bnd_none, rmap_some, nm_eq, Sum.elim_inl, Sum.elim_inr, un2_mk, un3_mk, un4_mk, un5_mk, un6_mk, un7_mk, un8_mk, un9_mk, un10_mk, un11_mk, un12_mk, ck_t (show ix 0 60 = true by decide), au0, i2']
