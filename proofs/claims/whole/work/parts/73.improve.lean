/-! what turning round changes -/
def sm (c : Nat → Nat) : Nat → Nat
  | 0 => 0
  | n + 1 => sm c n + c n
theorem sm_s (c : Nat → Nat) (n : Nat) : sm c (n + 1) = sm c n + c n := rfl
theorem sm_congr {c d : Nat → Nat} {n : Nat} (h : ∀ k, k < n → c k = d k) : sm c n = sm d n := by
  induction n with
  | zero => rfl
  | succ n ih => rw [sm_s, sm_s, ih (fun k hk => h k (by omega)), h n (by omega)]
theorem sm_split (c : Nat → Nat) (a b : Nat) : sm c (a + b) = sm c a + sm (fun k => c (a + k)) b := by
  induction b with
  | zero => rfl
  | succ b ih => rw [show a + (b + 1) = a + b + 1 by omega, sm_s, sm_s, ih]; omega
theorem sm_head (c : Nat → Nat) (n : Nat) : sm c (n + 1) = c 0 + sm (fun k => c (1 + k)) n := by
  rw [show n + 1 = 1 + n by omega, sm_split c 1 n]
  show 0 + c 0 + _ = _
  omega
theorem sm_rev (c : Nat → Nat) (n : Nat) : sm (fun k => c (n - 1 - k)) n = sm c n := by
  induction n with
  | zero => rfl
  | succ n ih =>
    rw [sm_head, sm_s]
    rw [sm_congr (d := fun k => c (n - 1 - k)) (fun k hk => congrArg c (by omega)), ih]
    show c (n + 1 - 1 - 0) + _ = _
    rw [show n + 1 - 1 - 0 = n by omega]; omega
def cP (D : Nat → Nat → Nat) (P : Nat → Nat) (k : Nat) : Nat := if k = 0 then 0 else D (tw (P (k - 1))) (P k)
theorem sP_sm (D : Nat → Nat → Nat) (P : Nat → Nat) (n : Nat) : sP D P n = sm (cP D P) n := by
  induction n with
  | zero => rfl
  | succ n ih => rw [sP_s, sm_s, ih]; rfl
def bfr (D : Nat → Nat → Nat) (P : Nat → Nat) (m i j : Nat) : Nat := (if i = 0 then 0 else D (tw (P (i - 1))) (P i)) + if j + 1 < m then D (tw (P j)) (P (j + 1)) else 0
def aft (D : Nat → Nat → Nat) (P : Nat → Nat) (m i j : Nat) : Nat := (if i = 0 then 0 else D (tw (P (i - 1))) (tw (P j))) + if j + 1 < m then D (P i) (P (j + 1)) else 0
theorem sP_trn {D : Nat → Nat → Nat} {P : Nat → Nat} {m i j : Nat} (hP : ∀ k, k < m → P k < 2 * m) (hs : ∀ a b, a < 2 * m → b < 2 * m → D a b = D b a) (hij : i ≤ j) (hj : j < m) : sP D (trn P i j) m + bfr D P m i j = sP D P m + aft D P m i j := by
  have cut : ∀ c : Nat → Nat, sm c m = sm c i + c i + sm (fun k => c (i + 1 + k)) (j - i) + sm (fun k => c (j + 1 + k)) (m - 1 - j) := fun c => by
    rw [show m = (j + 1) + (m - 1 - j) by omega, sm_split c (j + 1), show j + 1 + (m - 1 - j) - 1 - j = m - 1 - j by omega, show j + 1 = (i + 1) + (j - i) by omega, sm_split c (i + 1), sm_s]
  have inn : ∀ k, i ≤ k → k ≤ j → trn P i j k = tw (P (i + j - k)) := fun k h1 h2 => by unfold trn; rw [if_pos ⟨h1, h2⟩]
  have out : ∀ k, k < i ∨ j < k → trn P i j k = P k := fun k h => by unfold trn; rw [if_neg (by omega)]
  have A : sm (cP D (trn P i j)) i = sm (cP D P) i := sm_congr (fun k hk => by
    unfold cP
    by_cases c : k = 0
    · rw [if_pos c, if_pos c]
    · rw [if_neg c, if_neg c, out _ (by omega), out _ (by omega)])
  have M : sm (fun k => cP D (trn P i j) (i + 1 + k)) (j - i) = sm (fun k => cP D P (i + 1 + k)) (j - i) := by
    rw [← sm_rev (fun k => cP D P (i + 1 + k)) (j - i)]
    refine sm_congr (fun k hk => ?_)
    unfold cP
    rw [if_neg (by omega), if_neg (by omega), inn _ (by omega) (by omega), inn _ (by omega) (by omega), tw_tw]
    have e1 : i + j - (i + 1 + k - 1) = i + 1 + (j - i - 1 - k) := by omega
    have e2 : i + j - (i + 1 + k) = i + 1 + (j - i - 1 - k) - 1 := by omega
    rw [e1, e2]
    exact hs _ _ (hP _ (by omega)) (tw_lt (hP _ (by omega)))
  have I : cP D (trn P i j) i + (if i = 0 then 0 else D (tw (P (i - 1))) (P i)) = cP D P i + (if i = 0 then 0 else D (tw (P (i - 1))) (tw (P j))) := by
    unfold cP
    by_cases c : i = 0
    · rw [if_pos c, if_pos c, if_pos c]
    · rw [if_neg c, if_neg c, if_neg c, out _ (by omega), inn _ (by omega) hij, show i + j - i = j by omega]
      omega
  have E : sm (fun k => cP D (trn P i j) (j + 1 + k)) (m - 1 - j) + (if j + 1 < m then D (tw (P j)) (P (j + 1)) else 0) = sm (fun k => cP D P (j + 1 + k)) (m - 1 - j) + (if j + 1 < m then D (P i) (P (j + 1)) else 0) := by
    by_cases c : j + 1 < m
    · rw [if_pos c, if_pos c, show m - 1 - j = m - 2 - j + 1 by omega, sm_head, sm_head]
      have t : sm (fun k => (fun k => cP D (trn P i j) (j + 1 + k)) (1 + k)) (m - 2 - j) = sm (fun k => (fun k => cP D P (j + 1 + k)) (1 + k)) (m - 2 - j) := sm_congr (fun k hk => by
        dsimp only
        unfold cP
        rw [if_neg (by omega), if_neg (by omega), out _ (by omega), out _ (by omega)])
      rw [t]
      dsimp only
      have h0 : cP D (trn P i j) (j + 1 + 0) = D (P i) (P (j + 1)) := by
        unfold cP
        rw [if_neg (by omega), inn _ (by omega) (by omega), out _ (by omega), tw_tw]
        rw [show i + j - (j + 1 + 0 - 1) = i by omega]
      have h1 : cP D P (j + 1 + 0) = D (tw (P j)) (P (j + 1)) := by
        unfold cP
        rw [if_neg (by omega)]
        rfl
      rw [h0, h1]
      omega
    · rw [if_neg c, if_neg c, show m - 1 - j = 0 by omega]
      rfl
  rw [sP_sm, sP_sm, cut, cut, A, M]
  unfold bfr aft
  omega
theorem isLess_ok {len pn : Ar} {D : Nat → Nat → Nat} {P : Nat → Nat} {m i j : Nat} (hL : LenOK len D m) (hb : DB D m) (hm : m ≤ 60) (hP : PlOK pn P m) (hs : ∀ a b, a < 2 * m → b < 2 * m → D a b = D b a) (hij : i ≤ j) (hj : j < m) :
    X3_isLessTurnedRound (nI m) pn len (nI i) (nI j) = some (if sP D (trn P i j) m < sP D P m then 1 else 0) := by
  have K := sP_trn (D := D) (P := P) (fun k hk => (hP k hk).2) hs hij hj
  have iff' : sP D (trn P i j) m < sP D P m ↔ aft D P m i j < bfr D P m i j := by omega
  have d1 : ∀ a b, a < 2 * m → b < 2 * m → D a b ≤ 1000000 := fun a b ha h => by have := hb a b ha h; omega
  obtain ⟨pi1, pi2⟩ := hP i (by omega)
  obtain ⟨pj1, pj2⟩ := hP j hj
  have ai : ag pn (nI i) = nI (P i) := by rw [ag_nI (by omega), pi1]
  have aj : ag pn (nI j) = nI (P j) := by rw [ag_nI (by omega), pj1]
  have ici := ix_nI (show i < 60 by omega) (show 60 < 2 ^ 31 by decide)
  have icj := ix_nI (show j < 60 by omega) (show 60 < 2 ^ 31 by decide)
  have fin : ∀ x y : Nat, x < 2 ^ 31 → y < 2 ^ 31 → X3_isLessTurnedRound_b142 (nI x) (nI y) = some (if y < x then 1 else 0) := fun x y hx hy => by
    unfold X3_isLessTurnedRound_b142
    by_cases c : y < x
    · rw [if_neg (nI_ge c hx), if_pos c]
    · rw [if_pos (nI_le (by omega) hy), if_neg c]
  have rest : ∀ x y : Nat, x ≤ 1000000 → y ≤ 1000000 → X3_isLessTurnedRound_b70 (nI m) pn len (nI i) (nI j) (nI x) (nI y) = some (if y + (if j + 1 < m then D (P i) (P (j + 1)) else 0) < x + (if j + 1 < m then D (tw (P j)) (P (j + 1)) else 0) then 1 else 0) := fun x y hx hy => by
    have m1 : nI m - 1 = nI (m - 1) := pk_sub (b := 1) (by omega)
    unfold X3_isLessTurnedRound_b70
    rw [m1]
    by_cases c : j + 1 < m
    · obtain ⟨pk1, pk2⟩ := hP (j + 1) c
      have ak : ag pn (nI (j + 1)) = nI (P (j + 1)) := by rw [ag_nI (by omega), pk1]
      have dd1 := d1 _ _ (tw_lt pj2) pk2
      have dd2 := d1 _ _ pi2 pk2
      rw [if_neg (nI_ge (by omega) (by omega)), nI_1, ck_t (ix_nI (show j + 1 < 60 by omega) (by decide)), nm_eq, ak, ck_t icj, aj, tw_nI, length_ok hL hm (tw_lt pj2) pk2, bnd_some, nm_eq, ck_t ici, ai, length_ok hL hm pi2 pk2, bnd_some, nm_eq, nI_add, nI_add, fin _ _ (by omega) (by omega), if_pos c, if_pos c]
    · rw [if_pos (nI_le (by omega) (by omega)), fin _ _ (by omega) (by omega), if_neg c, if_neg c, Nat.add_zero, Nat.add_zero]
  have goal : X3_isLessTurnedRound (nI m) pn len (nI i) (nI j) = some (if aft D P m i j < bfr D P m i j then 1 else 0) := by
    unfold X3_isLessTurnedRound aft bfr
    by_cases c : i = 0
    · subst c
      rw [if_pos (show nI 0 ≤ 0 by decide)]
      have := rest 0 0 (by omega) (by omega)
      rw [if_pos rfl, if_pos rfl]
      exact this
    · obtain ⟨pk1, pk2⟩ := hP (i - 1) (by omega)
      have ak : ag pn (nI (i - 1)) = nI (P (i - 1)) := by rw [ag_nI (by omega), pk1]
      have s1 : nI i - 1 = nI (i - 1) := pk_sub (b := 1) (by omega)
      have z0 : ∀ x : Nat, (0 : Int32) + nI x = nI (0 + x) := fun x => nI_add 0 x
      have dd1 := d1 _ _ (tw_lt pk2) pi2
      have dd2 := d1 _ _ (tw_lt pk2) (tw_lt pj2)
      rw [if_neg (nI_nle (by omega) (by omega)), s1, ck_t (ix_nI (show i - 1 < 60 by omega) (by decide)), nm_eq, ak, tw_nI, ck_t ici, ai, length_ok hL hm (tw_lt pk2) pi2, bnd_some, nm_eq, ck_t icj, aj, tw_nI, length_ok hL hm (tw_lt pk2) (tw_lt pj2), bnd_some, nm_eq, z0, z0, Nat.zero_add, Nat.zero_add, rest _ _ dd1 dd2, if_neg c, if_neg c]
  rw [goal]
  by_cases c : aft D P m i j < bfr D P m i j
  · rw [if_pos c, if_pos (iff'.mpr c)]
  · rw [if_neg c, if_neg (fun q => c (iff'.mp q))]
/-- the first turning round that lessens -/
def Imp (D : Nat → Nat → Nat) (P : Nat → Nat) (m i j : Nat) : Prop := sP D (trn P i j) m < sP D P m
def NoImp (D : Nat → Nat → Nat) (P : Nat → Nat) (m : Nat) : Prop := ∀ i j, i ≤ j → j < m → ¬ Imp D P m i j
def FstImp (D : Nat → Nat → Nat) (P : Nat → Nat) (m i j : Nat) : Prop := i ≤ j ∧ j < m ∧ Imp D P m i j ∧ (∀ j', i ≤ j' → j' < j → ¬ Imp D P m i j') ∧ ∀ i' j', i' < i → i' ≤ j' → j' < m → ¬ Imp D P m i' j'
theorem FstImp_fun {D : Nat → Nat → Nat} {P : Nat → Nat} {m i j i' j' : Nat} (h : FstImp D P m i j) (h' : FstImp D P m i' j') : i = i' ∧ j = j' := by
  obtain ⟨a1, a2, a3, a4, a5⟩ := h
  obtain ⟨b1, b2, b3, b4, b5⟩ := h'
  rcases Nat.lt_trichotomy i i' with q | q | q
  · exact absurd a3 (b5 i j q a1 a2)
  · subst q
    rcases Nat.lt_trichotomy j j' with r | r | r
    · exact absurd a3 (b4 j a1 r)
    · exact ⟨rfl, r⟩
    · exact absurd b3 (a4 j' b1 r)
  · exact absurd b3 (a5 i' j' q b1 b2)
theorem turnFirst_ok {len pn : Ar} {D : Nat → Nat → Nat} {P : Nat → Nat} {m : Nat} (hL : LenOK len D m) (hb : DB D m) (hm : m ≤ 60) (hP : PlOK pn P m) (hs : ∀ a b, a < 2 * m → b < 2 * m → D a b = D b a) :
    (NoImp D P m ∧ X3_turnFirstRound (nI m) pn len = some (0, pn)) ∨ ∃ i j pn', FstImp D P m i j ∧ X3_turnFirstRound (nI m) pn len = some (1, pn') ∧ PlOK pn' (trn P i j) m := by
  have inner : ∀ i, i < m → ∃ r, whileV (fun s => X3_turnFirstRound_L15 (nI m) pn len (nI i) s) (nI i) = some r ∧ ((r = .inl () ∧ ∀ j', i ≤ j' → j' < m → ¬ Imp D P m i j') ∨ ∃ j, i ≤ j ∧ j < m ∧ r = .inr (nI j) ∧ Imp D P m i j ∧ ∀ j', i ≤ j' → j' < j → ¬ Imp D P m i j') := fun i hi =>
    whileV_up (body := fun s => X3_turnFirstRound_L15 (nI m) pn len (nI i) s) m
      (fun j s => s = nI j ∧ i ≤ j ∧ ∀ j', i ≤ j' → j' < j → ¬ Imp D P m i j')
      (fun r => (r = .inl () ∧ ∀ j', i ≤ j' → j' < m → ¬ Imp D P m i j') ∨ ∃ j, i ≤ j ∧ j < m ∧ r = .inr (nI j) ∧ Imp D P m i j ∧ ∀ j', i ≤ j' → j' < j → ¬ Imp D P m i j')
      (fun j s hj hs' => by
        obtain ⟨rfl, q1, q2⟩ := hs'
        have L := isLess_ok hL hb hm hP hs q1 hj
        by_cases c : Imp D P m i j
        · right
          refine ⟨.inr (nI j), ?_, Or.inr ⟨j, q1, hj, rfl, c, q2⟩⟩
          show X3_turnFirstRound_L15 (nI m) pn len (nI i) (nI j) = _
          unfold X3_turnFirstRound_L15
          rw [if_neg (nI_ge hj (by omega)), L, bnd_some, if_pos (show sP D (trn P i j) m < sP D P m from c), if_neg (by decide)]
        · left
          refine ⟨nI (j + 1), ?_, rfl, by omega, fun j' h1 h2 => ?_⟩
          · show X3_turnFirstRound_L15 (nI m) pn len (nI i) (nI j) = _
            unfold X3_turnFirstRound_L15
            rw [if_neg (nI_ge hj (by omega)), L, bnd_some, if_neg (show ¬ sP D (trn P i j) m < sP D P m from c), if_pos rfl, nm_eq, nI_1]
          · by_cases e : j' = j
            · rw [e]; exact c
            · exact q2 j' h1 (by omega))
      (fun s hs' => by
        obtain ⟨rfl, q1, q2⟩ := hs'
        refine ⟨.inl (), ?_, Or.inl ⟨rfl, q2⟩⟩
        show X3_turnFirstRound_L15 (nI m) pn len (nI i) (nI m) = _
        unfold X3_turnFirstRound_L15
        rw [if_pos (nI_le (Nat.le_refl _) (by omega))]) i (nI i) (by omega) ⟨rfl, Nat.le_refl _, fun j' h1 h2 => by omega⟩
  obtain ⟨r, h1, h2⟩ := whileV_up (body := fun s => X3_turnFirstRound_L2 (nI m) pn len s) m
    (fun i s => s = nI i ∧ ∀ i' j', i' < i → i' ≤ j' → j' < m → ¬ Imp D P m i' j')
    (fun r => (r = .inl () ∧ NoImp D P m) ∨ ∃ i j, r = .inr (nI i, nI j) ∧ FstImp D P m i j)
    (fun i s hi hs' => by
      obtain ⟨rfl, q⟩ := hs'
      obtain ⟨r, g1, ⟨rfl, g2⟩ | ⟨j, j1, j2, rfl, j3, j4⟩⟩ := inner i hi
      · left
        refine ⟨nI (i + 1), ?_, rfl, fun i' j' a b c => ?_⟩
        · show X3_turnFirstRound_L2 (nI m) pn len (nI i) = _
          unfold X3_turnFirstRound_L2
          rw [if_neg (nI_ge hi (by omega)), g1, bnd_some, Sum.elim_inl, nm_eq, nI_1]
        · by_cases e : i' = i
          · rw [e] at b ⊢; exact g2 j' b c
          · exact q i' j' (by omega) b c
      · right
        refine ⟨.inr (nI i, nI j), ?_, Or.inr ⟨i, j, rfl, j1, j2, j3, j4, q⟩⟩
        show X3_turnFirstRound_L2 (nI m) pn len (nI i) = _
        unfold X3_turnFirstRound_L2
        rw [if_neg (nI_ge hi (by omega)), g1, bnd_some, Sum.elim_inr])
    (fun s hs' => by
      obtain ⟨rfl, q⟩ := hs'
      refine ⟨.inl (), ?_, Or.inl ⟨rfl, fun i j a b => q i j (by omega) a b⟩⟩
      show X3_turnFirstRound_L2 (nI m) pn len (nI m) = _
      unfold X3_turnFirstRound_L2
      rw [if_pos (nI_le (Nat.le_refl _) (by omega))]) 0 (nI 0) (by omega) ⟨rfl, fun i' j' a => by omega⟩
  have h1' : whileV (fun s => X3_turnFirstRound_L2 (nI m) pn len s) 0 = some r := h1
  rcases h2 with ⟨rfl, q⟩ | ⟨i, j, rfl, q⟩
  · left
    refine ⟨q, ?_⟩
    unfold X3_turnFirstRound
    rw [h1', bnd_some, Sum.elim_inl]
  · right
    obtain ⟨pn', w1, w2⟩ := turnRound_ok hm hP q.1 q.2.1
    refine ⟨i, j, pn', q, ?_, w2⟩
    unfold X3_turnFirstRound
    rw [h1', bnd_some, Sum.elim_inr, un2_mk, w1, bnd_some]
theorem PlOK_congr {pn : Ar} {P Q : Nat → Nat} {m : Nat} (h : PlOK pn P m) (e : ∀ k, k < m → P k = Q k) : PlOK pn Q m := fun k hk => by
  have := h k hk
  rw [e k hk] at this
  exact this
theorem shortens_ok {tu pl : Ar} {D : Nat → Nat → Nat} {P : Nat → Nat} {m : Nat} (h : TurOK tu D m) (hb : DB D m) (hm : m ≤ 60) (hP : PlOK pl P m) (hf : sP D P m < 1000000) :
    (∃ pl', NoImp D P m ∧ X10_shortens (nI m) pl tu 0 (nI (sP D P m)) = some (-1, pl') ∧ PlOK pl' P m) ∨ ∃ i j pl', FstImp D P m i j ∧ X10_shortens (nI m) pl tu 0 (nI (sP D P m)) = some (nI (sP D (trn P i j) m), pl') ∧ PlOK pl' (trn P i j) m := by
  have inner : ∀ i pl, i < m → PlOK pl P m → ∃ r, whileV (fun s => X10_shortens_L13 (nI m) tu (nI (sP D P m)) (nI i) s.1 s.2) (pl, nI i) = some r ∧ ((∃ pl', r = .inl pl' ∧ PlOK pl' P m ∧ ∀ j', i ≤ j' → j' < m → ¬ Imp D P m i j') ∨ ∃ j pl', i ≤ j ∧ j < m ∧ r = .inr (pl', nI (sP D (trn P i j) m)) ∧ PlOK pl' (trn P i j) m ∧ Imp D P m i j ∧ ∀ j', i ≤ j' → j' < j → ¬ Imp D P m i j') := fun i pl hi hpl =>
    whileV_up (body := fun s => X10_shortens_L13 (nI m) tu (nI (sP D P m)) (nI i) s.1 s.2) m
      (fun j s => s.2 = nI j ∧ PlOK s.1 P m ∧ i ≤ j ∧ ∀ j', i ≤ j' → j' < j → ¬ Imp D P m i j')
      (fun r => (∃ pl', r = .inl pl' ∧ PlOK pl' P m ∧ ∀ j', i ≤ j' → j' < m → ¬ Imp D P m i j') ∨ ∃ j pl', i ≤ j ∧ j < m ∧ r = .inr (pl', nI (sP D (trn P i j) m)) ∧ PlOK pl' (trn P i j) m ∧ Imp D P m i j ∧ ∀ j', i ≤ j' → j' < j → ¬ Imp D P m i j')
      (fun j s hj hs' => by
        obtain ⟨g, x⟩ := s
        obtain ⟨rfl, qp, q1, q2⟩ := hs'
        dsimp only at qp
        obtain ⟨g2, w1, w2⟩ := turnRound_ok hm qp q1 hj
        have S := sumR_ok h hb hm w2
        rw [← turnsRound_eq] at w1
        by_cases c : Imp D P m i j
        · right
          have c' : sP D (trn P i j) m < sP D P m := c
          refine ⟨.inr (g2, nI (sP D (trn P i j) m)), ?_, Or.inr ⟨j, g2, q1, hj, rfl, w2, c, q2⟩⟩
          show X10_shortens_L13 (nI m) tu (nI (sP D P m)) (nI i) g (nI j) = _
          unfold X10_shortens_L13
          unfold svR at S
          rw [if_pos (by omega)] at S
          rw [if_neg (nI_ge hj (by omega)), w1, bnd_some, S, bnd_some, if_neg (show ¬ nI (sP D (trn P i j) m) < 0 from nI_nlt (Nat.zero_le _) (by omega)), if_neg (nI_ge c' (by omega))]
        · left
          have c' : ¬ sP D (trn P i j) m < sP D P m := c
          obtain ⟨g3, y1, y2⟩ := turnRound_ok hm w2 q1 hj
          rw [← turnsRound_eq] at y1
          have bb : X10_shortens_b13_49 g2 (nI (sP D P m)) (nI i) (nI j) = some (.inl (g3, nI (j + 1))) := by unfold X10_shortens_b13_49; rw [y1, bnd_some, nm_eq, nI_1]
          refine ⟨(g3, nI (j + 1)), ?_, rfl, PlOK_congr y2 (fun k _ => trn_trn P i j k), by omega, fun j' h1 h2 => ?_⟩
          · show X10_shortens_L13 (nI m) tu (nI (sP D P m)) (nI i) g (nI j) = _
            unfold X10_shortens_L13
            rw [if_neg (nI_ge hj (by omega)), w1, bnd_some, S, bnd_some]
            unfold svR
            by_cases d : sP D (trn P i j) m < 1000000
            · rw [if_pos d, if_neg (show ¬ nI (sP D (trn P i j) m) < 0 from nI_nlt (Nat.zero_le _) (by omega)), if_pos (nI_le (by omega) (by omega)), bb]
            · rw [if_neg d, if_pos (by decide), bb]
          · by_cases e : j' = j
            · rw [e]; exact c
            · exact q2 j' h1 (by omega))
      (fun s hs' => by
        obtain ⟨g, x⟩ := s
        obtain ⟨rfl, qp, q1, q2⟩ := hs'
        refine ⟨.inl g, ?_, Or.inl ⟨g, rfl, qp, q2⟩⟩
        show X10_shortens_L13 (nI m) tu (nI (sP D P m)) (nI i) g (nI m) = _
        unfold X10_shortens_L13
        rw [if_pos (nI_le (Nat.le_refl _) (by omega))]) i (pl, nI i) (by omega) ⟨rfl, hpl, Nat.le_refl _, fun j' h1 h2 => by omega⟩
  obtain ⟨r, h1, h2⟩ := whileV_up (body := fun s => X10_shortens_L2 (nI m) tu (nI (sP D P m)) s.1 s.2) m
    (fun i s => s.2 = nI i ∧ PlOK s.1 P m ∧ ∀ i' j', i' < i → i' ≤ j' → j' < m → ¬ Imp D P m i' j')
    (fun r => (∃ pl', r = .inl pl' ∧ PlOK pl' P m ∧ NoImp D P m) ∨ ∃ i j pl', r = .inr (pl', nI (sP D (trn P i j) m)) ∧ PlOK pl' (trn P i j) m ∧ FstImp D P m i j)
    (fun i s hi hs' => by
      obtain ⟨g, x⟩ := s
      obtain ⟨rfl, qp, q⟩ := hs'
      dsimp only at qp
      obtain ⟨r, g1, ⟨pl', rfl, g2, g3⟩ | ⟨j, pl', j1, j2, rfl, j3, j4, j5⟩⟩ := inner i g hi qp
      · left
        refine ⟨(pl', nI (i + 1)), ?_, rfl, g2, fun i' j' a b c => ?_⟩
        · show X10_shortens_L2 (nI m) tu (nI (sP D P m)) g (nI i) = _
          unfold X10_shortens_L2
          rw [if_neg (nI_ge hi (by omega)), g1, bnd_some, Sum.elim_inl, nm_eq, nI_1]
        · by_cases e : i' = i
          · rw [e] at b ⊢; exact g3 j' b c
          · exact q i' j' (by omega) b c
      · right
        refine ⟨.inr (pl', nI (sP D (trn P i j) m)), ?_, Or.inr ⟨i, j, pl', rfl, j3, j1, j2, j4, j5, q⟩⟩
        show X10_shortens_L2 (nI m) tu (nI (sP D P m)) g (nI i) = _
        unfold X10_shortens_L2
        rw [if_neg (nI_ge hi (by omega)), g1, bnd_some, Sum.elim_inr, un2_mk])
    (fun s hs' => by
      obtain ⟨g, x⟩ := s
      obtain ⟨rfl, qp, q⟩ := hs'
      refine ⟨.inl g, ?_, Or.inl ⟨g, rfl, qp, fun i j a b => q i j (by omega) a b⟩⟩
      show X10_shortens_L2 (nI m) tu (nI (sP D P m)) g (nI m) = _
      unfold X10_shortens_L2
      rw [if_pos (nI_le (Nat.le_refl _) (by omega))]) 0 (pl, nI 0) (by omega) ⟨rfl, hP, fun i' j' a => by omega⟩
  have h1' : whileV (fun s => X10_shortens_L2 (nI m) tu (nI (sP D P m)) s.1 s.2) (pl, 0) = some r := h1
  rcases h2 with ⟨pl', rfl, q1, q2⟩ | ⟨i, j, pl', rfl, q1, q2⟩
  · left
    refine ⟨pl', q2, ?_, q1⟩
    unfold X10_shortens
    rw [h1', bnd_some, Sum.elim_inl]
  · right
    refine ⟨i, j, pl', q2, ?_, q1⟩
    unfold X10_shortens
    rw [h1', bnd_some, Sum.elim_inr, un2_mk]
theorem imp_sim {len tu : Ar} {D : Nat → Nat → Nat} {m : Nat} (hL : LenOK len D m) (h : TurOK tu D m) (hb : DB D m) (hm : m ≤ 60) (hs : ∀ a b, a < 2 * m → b < 2 * m → D a b = D b a) :
    ∀ s P, sP D P m = s → ∀ k (pn pl : Ar), k + s < 1000000 → RowD P m → PlOK pn P m → PlOK pl P m →
    ∃ pn' pl' P', whileV (fun t => X3_improve_L4 (nI m) len t.1 t.2.1 t.2.2) (pn, 1, nI k) = some pn' ∧ (bnd (X10_shortens (nI m) pl tu 0 (nI s)) <| un2 fun r pl1 => whileV (fun t => X10_bestOf_L55 (nI m) tu t.1 t.2.1 t.2.2) (pl1, nI s, r)) = some (pl', nI (sP D P' m)) ∧ PlOK pn' P' m ∧ PlOK pl' P' m ∧ sP D P' m ≤ s ∧ RowD P' m := by
  intro s
  induction s using Nat.strongRecOn with
  | _ s ih =>
    intro P e k pn pl hk hrd hpn hpl
    have kc : ¬ (1000000 : Int32) ≤ nI k := nI_ge (a := k) (b := 1000000) (by omega) (by decide)
    rcases turnFirst_ok hL hb hm hpn hs with ⟨n1, n2⟩ | ⟨i, j, pn1, f1, f2, f3⟩
    · rcases shortens_ok h hb hm hpl (show sP D P m < 1000000 by omega) with ⟨pl1, _, m2, m3⟩ | ⟨i, j, pl1, g1, _⟩
      · refine ⟨pn, pl1, P, whileV_to (s' := (pn, 0, nI (k + 1))) ?_ (whileV_end ?_), ?_, hpn, m3, by omega, hrd⟩
        · show X3_improve_L4 (nI m) len pn 1 (nI k) = _
          unfold X3_improve_L4
          rw [if_neg kc, if_neg (by decide), n2, bnd_some, un2_mk, nm_eq, nI_1]
        · show X3_improve_L4 (nI m) len pn 0 (nI (k + 1)) = _
          unfold X3_improve_L4
          by_cases c : (1000000 : Int32) ≤ nI (k + 1)
          · rw [if_pos c]
          · rw [if_neg c, if_pos rfl]
        · rw [e] at m2
          rw [m2, bnd_some, un2_mk, e]
          refine whileV_end ?_
          show X10_bestOf_L55 (nI m) tu pl1 (nI s) (-1) = _
          unfold X10_bestOf_L55
          rw [if_pos (by decide)]
      · exact absurd g1.2.2.1 (n1 i j g1.1 g1.2.1)
    · rcases shortens_ok h hb hm hpl (show sP D P m < 1000000 by omega) with ⟨pl1, n1, _⟩ | ⟨i', j', pl1, g1, g2, g3⟩
      · exact absurd f1.2.2.1 (n1 i j f1.1 f1.2.1)
      · obtain ⟨rfl, rfl⟩ := FstImp_fun f1 g1
        have lt : sP D (trn P i j) m < sP D P m := f1.2.2.1
        obtain ⟨pn', pl', P', i1, i2, i3, i4, i5, i6⟩ := ih (sP D (trn P i j) m) (by omega) (trn P i j) rfl (k + 1) pn1 pl1 (by omega) (trn_RowD hrd f1.2.1) f3 g3
        refine ⟨pn', pl', P', whileV_to (s' := (pn1, 1, nI (k + 1))) ?_ i1, ?_, i3, i4, by omega, i6⟩
        · show X3_improve_L4 (nI m) len pn 1 (nI k) = _
          unfold X3_improve_L4
          rw [if_neg kc, if_neg (by decide), f2, bnd_some, un2_mk, nm_eq, nI_1]
        · rw [e] at g2
          rw [g2, bnd_some, un2_mk]
          cases q : X10_shortens (nI m) pl1 tu 0 (nI (sP D (trn P i j) m)) with
          | none => rw [q] at i2; exact nomatch i2
          | some z =>
            obtain ⟨r, pl2⟩ := z
            rw [q, bnd_some, un2_mk] at i2
            refine whileV_to (s' := (pl2, nI (sP D (trn P i j) m), r)) ?_ i2
            show X10_bestOf_L55 (nI m) tu pl1 (nI s) (nI (sP D (trn P i j) m)) = _
            unfold X10_bestOf_L55
            rw [if_neg (show ¬ nI (sP D (trn P i j) m) < 0 from nI_nlt (Nat.zero_le _) (by omega)), q, bnd_some, un2_mk]
/-- the best plan, in class and reference -/
theorem best_ok {len tu pn pl : Ar} {D : Nat → Nat → Nat} {m : Nat} (hL : LenOK len D m) (h : TurOK tu D m) (hb : DB D m) (hm : m ≤ 60) (hs : ∀ a b, a < 2 * m → b < 2 * m → D a b = D b a) (th sz hp : Int32) (rests rest iu : Ar) :
    (∃ rests' rest' pn' pl' iu' P, X3_make th sz rests pn len (nI m) = some (nI (sP D P m), 1, nI m, rests', pn') ∧ X10_bestOf hp (nI m) iu pl rest tu = some (nI (sP D P m), 1, iu', pl', rest') ∧ PlOK pn' P m ∧ PlOK pl' P m ∧ sP D P m < 1000000 ∧ RowD P m) ∨
    ∃ rests' rest' pn' pl' iu', X3_make th sz rests pn len (nI m) = some (-1, 0, 0, rests', pn') ∧ X10_bestOf hp (nI m) iu pl rest tu = some (-1, 0, iu', pl', rest') := by
  have b0 : bl 0 = true := by decide
  have b1 : bl 1 = true := by decide
  have n10 : ¬ (1 : Int32) = 0 := by decide
  by_cases c : m ≤ 9
  · have c9 : ¬ (9 : Int32) < nI m := show ¬ nI 9 < nI m from nI_nlt c (by decide)
    have c9' : nI m ≤ 9 := nI_le (b := 9) c (by decide)
    obtain ⟨rests', rest', a1, ⟨pn', pl', P, a2, a3, a4, a5, a6, a7⟩ | ⟨sz', pn', pl', a2, a3⟩⟩ := few_ok (pn := pn) (pl := pl) hL h hb c rests rest
    · left
      refine ⟨rests', rest', pn', pl', iu, P, ?_, ?_, a4, a5, a6, a7⟩
      · have S := (sum_ok hL hb hm a4).1
        rw [Nat.min_eq_left (by omega)] at S
        unfold X3_make X2_forget X3_make_b45 X3_make_b74
        simp only [bnd_some, bnd_none, rmap_some, nm_eq, Sum.elim_inl, Sum.elim_inr, un2_mk, un3_mk, un4_mk, un5_mk, un6_mk, un7_mk, un8_mk, un9_mk, un10_mk, un11_mk, un12_mk, if_neg c9, a1, a2, ck_t b1, if_neg n10, if_pos c9', S]
      · unfold X10_bestOf X10_bestOf_b29
        simp only [bnd_some, bnd_none, rmap_some, nm_eq, Sum.elim_inl, Sum.elim_inr, un2_mk, un3_mk, un4_mk, un5_mk, un6_mk, un7_mk, un8_mk, un9_mk, un10_mk, un11_mk, un12_mk, if_neg c9, a3, if_neg (show ¬ nI (sP D P m) < 0 from nI_nlt (Nat.zero_le _) (by omega)), ck_t b1]
    · right
      refine ⟨rests', rest', pn', pl', iu, ?_, ?_⟩
      · unfold X3_make X2_forget X3_make_b45 X2_forget
        simp only [bnd_some, bnd_none, rmap_some, nm_eq, Sum.elim_inl, Sum.elim_inr, un2_mk, un3_mk, un4_mk, un5_mk, un6_mk, un7_mk, un8_mk, un9_mk, un10_mk, un11_mk, un12_mk, if_neg c9, a1, a2, ck_t b0, if_true]
      · unfold X10_bestOf X10_bestOf_b29
        simp only [bnd_some, bnd_none, rmap_some, nm_eq, Sum.elim_inl, Sum.elim_inr, un2_mk, un3_mk, un4_mk, un5_mk, un6_mk, un7_mk, un8_mk, un9_mk, un10_mk, un11_mk, un12_mk, if_neg c9, a3, if_pos (show (-1 : Int32) < 0 by decide), ck_t b0]
  · have c9 : (9 : Int32) < nI m := nI_lt (a := 9) (by omega) (by omega)
    have c9' : ¬ nI m ≤ 9 := nI_ge (b := m) (a := 9) (by omega) (by omega)
    rcases near_ok (pn := pn) (pl := pl) (iu := iu) hL h hb hm (by omega) with ⟨pn', pl', iu', P, a1, a2, a3, a4, a5, a6⟩ | ⟨sz', pn', pl', iu', a1, a2⟩
    · left
      have SR := sumR_ok h hb hm a4
      unfold svR at SR
      rw [if_pos (by omega)] at SR
      obtain ⟨pn2, pl2, P2, i1, i2, i3, i4, i5, i6⟩ := imp_sim hL h hb hm hs (sP D P m) P rfl 0 pn' pl' (by omega) a6 a3 a4
      have i1' : whileV (fun t => X3_improve_L4 (nI m) len t.1 t.2.1 t.2.2) (pn', 1, 0) = some pn2 := i1
      have S := (sum_ok hL hb hm i3).1
      rw [Nat.min_eq_left (by omega)] at S
      refine ⟨rests, rest, pn2, pl2, iu', P2, ?_, ?_, i3, i4, by omega, i6⟩
      · unfold X3_make X2_forget X3_make_b45 X3_make_b74 X3_improve
        simp only [bnd_some, bnd_none, rmap_some, nm_eq, Sum.elim_inl, Sum.elim_inr, un2_mk, un3_mk, un4_mk, un5_mk, un6_mk, un7_mk, un8_mk, un9_mk, un10_mk, un11_mk, un12_mk, if_pos c9, a1, ck_t b1, if_neg n10, if_neg c9', i1', S]
      · cases q : X10_shortens (nI m) pl' tu 0 (nI (sP D P m)) with
        | none => rw [q] at i2; exact nomatch i2
        | some z =>
          obtain ⟨r, pl3⟩ := z
          rw [q, bnd_some, un2_mk] at i2
          unfold X10_bestOf
          simp only [bnd_some, bnd_none, rmap_some, nm_eq, Sum.elim_inl, Sum.elim_inr, un2_mk, un3_mk, un4_mk, un5_mk, un6_mk, un7_mk, un8_mk, un9_mk, un10_mk, un11_mk, un12_mk, if_pos c9, a2, if_neg n10, SR, q, i2]
    · right
      refine ⟨rests, rest, pn', pl', iu', ?_, ?_⟩
      · unfold X3_make X2_forget X3_make_b45 X2_forget
        simp only [bnd_some, bnd_none, rmap_some, nm_eq, Sum.elim_inl, Sum.elim_inr, un2_mk, un3_mk, un4_mk, un5_mk, un6_mk, un7_mk, un8_mk, un9_mk, un10_mk, un11_mk, un12_mk, if_pos c9, a1, ck_t b0, if_true]
      · unfold X10_bestOf
        simp only [bnd_some, bnd_none, rmap_some, nm_eq, Sum.elim_inl, Sum.elim_inr, un2_mk, un3_mk, un4_mk, un5_mk, un6_mk, un7_mk, un8_mk, un9_mk, un10_mk, un11_mk, un12_mk, if_pos c9, a2, if_true]
