/-! the best plan of few rows -/
theorem sP_congr {D : Nat → Nat → Nat} {P Q : Nat → Nat} {k : Nat} (h : ∀ i, i < k → P i = Q i) : sP D P k = sP D Q k := by
  induction k with
  | zero => rfl
  | succ k ih =>
    rw [sP_s, sP_s, ih (fun i hi => h i (by omega)), h k (by omega)]
    by_cases c : k = 0
    · rw [if_pos c, if_pos c]
    · rw [if_neg c, if_neg c, h (k - 1) (by omega)]
/-- what it costs to go on through a number -/
def Gk (D : Nat → Nat → Nat) (m : Nat) (P : Nat → Nat) (k left to : Nat) : Nat := (if k = 0 then 0 else D (tw (P (k - 1))) to) + T D m (left - 2 ^ (to / 2)) to
theorem few104 {tu rest pl : Ar} {D : Nat → Nat → Nat} {P : Nat → Nat} {m left k f due : Nat} (h : TurOK tu D m) (hb : DB D m) (hm : m ≤ 9) (hl : left < 2 ^ m) (hk : k < m) (hR : ∀ l, l < 2 ^ m → TbR rest D m l) (hP : ∀ i, i < k → pl i = nI (P i) ∧ P i < 2 * m) (hf : f < 2 * m) (hfb : left.testBit (f / 2) = true) (hd : Gk D m P k left f = due) (hd2 : due < 1000000) (hlow : ∀ s, s < f → left.testBit (s / 2) = true → due < Gk D m P k left s) (v2 : Int32) :
    ∃ pl', whileV (fun s => X10_few_L104 rest tu v2 (nI left) (nI due) (nI k) s.1 s.2) (pl, nI (2 * m - 1)) = some pl' ∧ pl' k = nI f ∧ ∀ i, i ≠ k → pl' i = pl i := by
  have l5 := p512 hm
  obtain ⟨pl', h1, h2, h3⟩ := whileV_up (body := fun s => X10_few_L104 rest tu v2 (nI left) (nI due) (nI k) s.1 s.2) (2 * m)
    (fun n s => s.2 = iI (2 * m - 1 - n) ∧ (2 * m ≤ f + n → s.1 k = nI f) ∧ ∀ i, i ≠ k → s.1 i = pl i) (fun r => r k = nI f ∧ ∀ i, i ≠ k → r i = pl i)
    (fun n s hn hs => by
      obtain ⟨g, x⟩ := s
      obtain ⟨rfl, q1, q2⟩ := hs
      dsimp only at q1 q2
      left
      obtain ⟨to, hto⟩ : ∃ to, to + n + 1 = 2 * m := ⟨2 * m - 1 - n, by omega⟩
      have e1 : iI (2 * m - 1 - (n : Int)) = nI to := by rw [iI_nn (by omega)]; exact congrArg nI (by omega)
      have e2 : nI to + (-1) = iI (2 * m - 1 - ((n + 1 : Nat) : Int)) := by rw [← iI_nat, iI_m1, iI_add]; exact congrArg iI (by omega)
      have bb : ∀ g : Ar, X10_few_b104_194 g v2 (nI left) (nI due) (nI k) (nI to) = some (.inl (g, iI (2 * m - 1 - ((n + 1 : Nat) : Int)))) := fun g => by unfold X10_few_b104_194; rw [nm_eq, e2]
      have bit := nI_bit (b := left) (k := to / 2) (by omega) (by omega)
      have n0 : ¬ nI to < 0 := nI_nlt (Nat.zero_le _) (by omega)
      have skip : to ≠ f → X10_few_L104 rest tu v2 (nI left) (nI due) (nI k) g (nI to) = some (.inl (g, iI (2 * m - 1 - ((n + 1 : Nat) : Int)))) → ∃ s' : Ar × Int32, X10_few_L104 rest tu v2 (nI left) (nI due) (nI k) g (iI (2 * m - 1 - (n : Int))) = some (.inl s') ∧ s'.2 = iI (2 * m - 1 - ((n + 1 : Nat) : Int)) ∧ (2 * m ≤ f + (n + 1) → s'.1 k = nI f) ∧ ∀ i, i ≠ k → s'.1 i = pl i := fun y1 y2 =>
        ⟨(g, iI (2 * m - 1 - ((n + 1 : Nat) : Int))), by rw [e1]; exact y2, rfl, fun z => q1 (by omega), q2⟩
      by_cases c : left.testBit (to / 2) = true
      · rw [if_pos c] at bit
        have ge := bit_ge c
        have pp : 0 < 2 ^ (to / 2) := Nat.two_pow_pos _
        have an := and_not left (by omega) (to / 2) (by omega) c
        have nf := (pc_rem left (by omega) (to / 2) (by omega) c).2
        have rd : ag rest (nI (18 * (left - 2 ^ (to / 2)) + to)) = nI (rf (T D m (left - 2 ^ (to / 2)) to)) := by rw [ag_nI (by omega), hR _ (by omega) to (by omega) nf]
        have ic := ix_nI (show 18 * (left - 2 ^ (to / 2)) + to < 9216 by omega) (show 9216 < 2 ^ 31 by decide)
        have Tf := T_f hb hm (show left - 2 ^ (to / 2) < 512 by omega) (show to < 2 * m by omega)
        -- the cost up to here
        have cost : ∃ cst, Gk D m P k left to = cst + T D m (left - 2 ^ (to / 2)) to ∧ (cst ≤ 16807 ∨ cst = 1000000) ∧ X10_few_L104 rest tu v2 (nI left) (nI due) (nI k) g (nI to) = X10_few_b104_149 g rest v2 (nI left) (nI due) (nI k) (nI to) (tnv cst) := by
          by_cases k0 : k = 0
          · refine ⟨0, ?_, by omega, ?_⟩
            · unfold Gk; rw [if_pos k0]
            · unfold X10_few_L104
              rw [if_neg n0, div2 (by omega), bit, if_neg (show ¬ (1 : Int32) = 0 by decide), if_pos (by rw [k0]; rfl)]
              rfl
          · obtain ⟨p1, p2⟩ := hP (k - 1) (by omega)
            have a1 : ag g (nI (k - 1)) = nI (P (k - 1)) := by rw [ag_nI (by omega), q2 _ (by omega), p1]
            have s1 : nI k - 1 = nI (k - 1) := pk_sub (b := 1) (by omega)
            refine ⟨D (tw (P (k - 1))) to, ?_, hb _ _ (tw_lt p2) (by omega), ?_⟩
            · unfold Gk; rw [if_neg k0]
            · unfold X10_few_L104
              rw [if_neg n0, div2 (by omega), bit, if_neg (show ¬ (1 : Int32) = 0 by decide), if_neg (show ¬ nI k = 0 from nI_ne (b := 0) (by omega) (by decide) k0), s1, ck_t (ix_nI (show k - 1 < 60 by omega) (by decide)), a1, tw_nI, turnOf_ok h (by omega) (tw_lt p2) (show to < 2 * m by omega), bnd_some]
        obtain ⟨cst, g1, g2, g3⟩ := cost
        by_cases ef : to = f
        · subst ef
          have cf : cst ≤ 16807 := by omega
          have tf : T D m (left - 2 ^ (to / 2)) to ≤ 151263 := by omega
          have au1 : ∀ x, au g (nI k) x = upd g k x := fun x => au_nI (by omega)
          refine ⟨(upd g k (nI to), iI (2 * m - 1 - ((n + 1 : Nat) : Int))), ?_, rfl, fun _ => ?_, fun i hi => ?_⟩
          · show X10_few_L104 rest tu v2 (nI left) (nI due) (nI k) g (iI (2 * m - 1 - (n : Int))) = _
            rw [e1, g3]
            unfold X10_few_b104_149
            rw [tnv_f cf, if_neg (show ¬ nI cst < 0 from nI_nlt (Nat.zero_le _) (by omega)), div2 (by omega), an, i18, ck_t ic, rd, nI_add, if_pos, ck_t (ix_nI (show k < 60 by omega) (by decide)), nm_eq, au1, bb]
            refine congrArg nI ?_
            unfold rf
            rw [if_neg (by omega)]
            omega
          · show upd g k (nI to) k = _
            rw [upd_at, if_pos rfl]
          · show upd g k (nI to) i = _
            rw [upd_at, if_neg hi]; exact q2 i hi
        · have step : X10_few_L104 rest tu v2 (nI left) (nI due) (nI k) g (nI to) = some (.inl (g, iI (2 * m - 1 - ((n + 1 : Nat) : Int)))) ∨ f < to := by
            rcases Nat.lt_or_ge f to with z | z
            · exact Or.inr z
            · left
              have low := hlow to (by omega) c
              rw [g3]
              unfold X10_few_b104_149
              rcases g2 with y | y
              · rw [tnv_f y, if_neg (show ¬ nI cst < 0 from nI_nlt (Nat.zero_le _) (by omega)), div2 (by omega), an, i18, ck_t ic, rd, nI_add, if_neg, bb]
                have rl : rf (T D m (left - 2 ^ (to / 2)) to) ≤ 100000000 := by unfold rf; split <;> omega
                refine nI_ne (by omega) (by omega) ?_
                unfold rf
                split <;> omega
              · rw [y, tnv_n, if_pos (by decide), bb]
          rcases step with y | z
          · exact skip ef y
          · -- above f: whatever is written, it is written over
            have au1 : ∀ x, au g (nI k) x = upd g k x := fun x => au_nI (by omega)
            have some' : X10_few_L104 rest tu v2 (nI left) (nI due) (nI k) g (nI to) = some (.inl (g, iI (2 * m - 1 - ((n + 1 : Nat) : Int)))) ∨ X10_few_L104 rest tu v2 (nI left) (nI due) (nI k) g (nI to) = some (.inl (upd g k (nI to), iI (2 * m - 1 - ((n + 1 : Nat) : Int)))) := by
              rw [g3]
              unfold X10_few_b104_149
              rcases g2 with y | y
              · rw [tnv_f y, if_neg (show ¬ nI cst < 0 from nI_nlt (Nat.zero_le _) (by omega)), div2 (by omega), an, i18, ck_t ic, rd, nI_add]
                by_cases w : nI (cst + rf (T D m (left - 2 ^ (to / 2)) to)) = nI due
                · right
                  rw [if_pos w, ck_t (ix_nI (show k < 60 by omega) (by decide)), nm_eq, au1, bb]
                · left
                  rw [if_neg w, bb]
              · left
                rw [y, tnv_n, if_pos (by decide), bb]
            rcases some' with y | y
            · exact skip ef y
            · refine ⟨(upd g k (nI to), iI (2 * m - 1 - ((n + 1 : Nat) : Int))), by rw [e1]; exact y, rfl, fun w => by omega, fun i hi => ?_⟩
              show upd g k (nI to) i = _
              rw [upd_at, if_neg hi]; exact q2 i hi
      · rw [if_neg c] at bit
        refine skip (fun e => c (by rw [e]; exact hfb)) ?_
        unfold X10_few_L104
        rw [if_neg n0, div2 (by omega), bit, if_pos rfl, bb])
    (fun s hs => by
      obtain ⟨g, x⟩ := s
      obtain ⟨rfl, q1, q2⟩ := hs
      refine ⟨g, ?_, q1 (by omega), q2⟩
      show X10_few_L104 rest tu v2 (nI left) (nI due) (nI k) g (iI (2 * m - 1 - ((2 * m : Nat) : Int))) = _
      unfold X10_few_L104
      rw [if_pos (show iI (2 * m - 1 - ((2 * m : Nat) : Int)) < 0 from (iI_lt (b := 0) (by omega) (by omega) (by omega) (by omega)).mpr (by omega))]) 0 (pl, nI (2 * m - 1)) (Nat.zero_le _) ⟨by
        show nI (2 * m - 1) = iI (2 * m - 1 - ((0 : Nat) : Int))
        rw [← iI_nat]; exact congrArg iI (by omega), fun z => by omega, fun _ _ => rfl⟩
  exact ⟨pl', h1, h2, h3⟩
theorem few_sim {len tu rests rest : Ar} {D : Nat → Nat → Nat} {m B : Nat} (hL : LenOK len D m) (h : TurOK tu D m) (hb : DB D m) (hm : m ≤ 9) (hC : ∀ l, l < 2 ^ m - 1 → TbC rests D m l) (hR : ∀ l, l < 2 ^ m → TbR rest D m l) (v2 : Int32) :
    ∀ d k left due lat pn pl P, k + d = m → left < 2 ^ m → pc left = m - k → (∀ i, i < k → pn i = nI (P i) ∧ pl i = nI (P i) ∧ P i < 2 * m) → (∀ i, i < k → left.testBit (P i / 2) = false) → RowD P k → ((k = 0 ∧ lat = -1) ∨ (0 < k ∧ lat = nI (P (k - 1)))) → due < 1000000 → due + sP D P k = B → (k < m → due = mnT (Gk D m P k left) (fun to => left.testBit (to / 2)) (2 * m)) → (k = m → due = 0) →
    ∃ pn' pl' P', whileV (fun s => X3_followRests_L7 rests len (nI m) s.1 s.2.1 s.2.2.1 s.2.2.2.1 s.2.2.2.2) (nI k, pn, nI (2 ^ m - 1 - left), lat, nI k) = some (.inl (nI m, pn')) ∧ whileV (fun s => X10_few_L85 (nI m) rest tu v2 s.1 s.2.1 s.2.2.1 s.2.2.2) (pl, nI left, nI due, nI k) = some pl' ∧ PlOK pn' P' m ∧ PlOK pl' P' m ∧ sP D P' m = B ∧ RowD P' m := by
  have tm : (2 : Int32) * nI m = nI (2 * m) := pk_mul 2 m
  have l5 := p512 hm
  intro d
  induction d with
  | zero =>
    intro k left due lat pn pl P hd hl hpc hP hbt hrd hlat hdu hB hM h0
    have ek : k = m := by omega
    subst ek
    have := h0 rfl
    refine ⟨pn, pl, P, whileV_end ?_, whileV_end ?_, fun i hi => ⟨(hP i hi).1, (hP i hi).2.2⟩, fun i hi => ⟨(hP i hi).2.1, (hP i hi).2.2⟩, by omega, hrd⟩
    · show X3_followRests_L7 rests len (nI k) (nI k) pn _ lat (nI k) = _
      unfold X3_followRests_L7
      rw [if_pos (nI_le (Nat.le_refl _) (by omega))]
    · show X10_few_L85 (nI k) rest tu v2 pl (nI left) (nI due) (nI k) = _
      unfold X10_few_L85
      rw [if_pos (nI_le (Nat.le_refl _) (by omega))]
  | succ d ih =>
    intro k left due lat pn pl P hd hl hpc hP hbt hrd hlat hdu hB hM h0
    have km : k < m := by omega
    have M := hM km
    have hG : ∀ to, to < 2 * m → left.testBit (to / 2) = true → X3_restThrough rests len (nI (2 ^ m - 1 - left)) lat (nI to) = some (nI (Gk D m P k left to)) ∧ Gk D m P k left to < 2 ^ 31 := fun to ht hbit => by
      have Tf := T_f hb hm (show left - 2 ^ (to / 2) < 512 from Nat.lt_of_le_of_lt (Nat.sub_le _ _) (by omega)) ht
      have hC' : ∀ l, l < left → TbC rests D m l := fun l hl' => hC l (by omega)
      unfold Gk
      rcases hlat with ⟨k0, rfl⟩ | ⟨k0, rfl⟩
      · rw [if_pos k0]
        exact ⟨restThrough0 hb hm hl ht hbit hC', by omega⟩
      · have pk := (hP (k - 1) (by omega)).2.2
        rw [if_neg (by omega)]
        refine ⟨restThrough1 hL hb hm hl ht pk hbit hC', ?_⟩
        have := hb _ _ (tw_lt pk) ht
        omega
    rcases firstOfFew_ok hm hl hG with ⟨z1, _⟩ | ⟨f, f1, f2, f3, f4, f5, f6⟩
    · omega
    · rw [← M] at f4 f5 f6
      obtain ⟨pl', w1, w2, w3⟩ := few104 h hb hm hl km hR (fun i hi => ⟨(hP i hi).2.1, (hP i hi).2.2⟩) f1 f3 f4 f5 f6 v2
      have ge := bit_ge f3
      have pp : 0 < 2 ^ (f / 2) := Nat.two_pow_pos _
      have an := and_not left (by omega) (f / 2) (by omega) f3
      obtain ⟨pr, nf⟩ := pc_rem left (by omega) (f / 2) (by omega) f3
      have Tf := T_f hb hm (show left - 2 ^ (f / 2) < 512 by omega) f1
      have Tg : T D m (left - 2 ^ (f / 2)) f ≤ 151263 := by
        unfold Gk at f4
        omega
      have rd : rest (18 * (left - 2 ^ (f / 2)) + f) = nI (T D m (left - 2 ^ (f / 2)) f) := by
        rw [hR _ (by omega) f f1 nf]
        refine congrArg nI ?_
        unfold rf
        rw [if_neg (by omega)]
      have db := dn_bit hl (show f / 2 < m by omega)
      rw [f3] at db
      have o := or_new (2 ^ m - 1 - left) (by omega) (f / 2) (by omega) db
      have e : 2 ^ m - 1 - left + 2 ^ (f / 2) = 2 ^ m - 1 - (left - 2 ^ (f / 2)) := by omega
      have au1 : ∀ x, au pn (nI k) x = upd pn k x := fun x => au_nI (by omega)
      have st1 : X3_followRests_L7 rests len (nI m) (nI k) pn (nI (2 ^ m - 1 - left)) lat (nI k) = some (.inl (nI (k + 1), upd pn k (nI f), nI (2 ^ m - 1 - (left - 2 ^ (f / 2))), nI f, nI (k + 1))) := by
        unfold X3_followRests_L7 X2_add
        rw [if_neg (nI_ge km (by omega)), f2, bnd_some, if_neg (nI_m1 (by omega)), if_neg (show ¬ (60 : Int32) ≤ nI k from nI_ge (a := k) (b := 60) (by omega) (by decide)), ck_t (ix_nI (show k < 60 by omega) (by decide)), nm_eq, nm_eq, bnd_some, un2_mk, nm_eq, nm_eq, au1, nI_1, div2 (by omega), nI_shl1 (by omega), nI_or, o, e]
      have st2 : X10_few_L85 (nI m) rest tu v2 pl (nI left) (nI due) (nI k) = some (.inl (pl', nI (left - 2 ^ (f / 2)), nI (T D m (left - 2 ^ (f / 2)) f), nI (k + 1))) := by
        have s1 : nI (2 * m) - 1 = nI (2 * m - 1) := pk_sub (b := 1) (by omega)
        have a1 : ag pl' (nI k) = nI f := by rw [ag_nI (by omega), w2]
        unfold X10_few_L85
        rw [if_neg (nI_ge km (by omega)), nm_eq, tm, s1, w1, bnd_some, ck_t (ix_nI (show k < 60 by omega) (by decide)), nm_eq, ck_t (ix_nI (show k < 60 by omega) (by decide)), a1, div2 (by omega), an, i18, ck_t (ix_nI (show 18 * (left - 2 ^ (f / 2)) + f < 9216 by omega) (by decide)), nm_eq, nm_eq, ag_nI (by omega), rd, nI_1]
      have sc : sP D (uN P k f) k = sP D P k := sP_congr (fun i hi => uN_n (by omega))
      have I := ih (k + 1) (left - 2 ^ (f / 2)) (T D m (left - 2 ^ (f / 2)) f) (nI f) (upd pn k (nI f)) pl' (uN P k f) (by omega) (by omega) (by omega) (fun i hi => ?_) (fun i hi => ?_) (fun i j hij hj => ?_) (Or.inr ⟨by omega, ?_⟩) (by omega) ?_ (fun hk1 => ?_) (fun hk1 => ?_)
      · obtain ⟨pn2, pl2, P2, i1, i2, i3⟩ := I
        exact ⟨pn2, pl2, P2, whileV_to st1 i1, whileV_to st2 i2, i3⟩
      · by_cases ei : i = k
        · rw [ei, uN_s, upd_at, if_pos rfl]; exact ⟨rfl, w2, f1⟩
        · rw [uN_n ei, upd_at, if_neg ei, w3 i ei]; exact hP i (by omega)
      · by_cases ei : i = k
        · rw [ei, uN_s]; exact nf
        · rw [uN_n ei]
          exact bit_rem left (by omega) (f / 2) (by omega) f3 (P i / 2) (by have := (hP i (by omega)).2.2; omega) (hbt i (by omega))
      · by_cases ej : j = k
        · rw [ej, uN_s, uN_n (by omega)]
          intro q
          have := hbt i (by omega)
          rw [q, f3] at this
          exact absurd this (by decide)
        · rw [uN_n ej, uN_n (by omega)]; exact hrd i j hij (by omega)
      · rw [show k + 1 - 1 = k by omega, uN_s]
      · rw [sP_s, sc]
        unfold Gk at f4
        by_cases k0 : k = 0
        · rw [if_pos k0] at f4 ⊢; omega
        · rw [if_neg k0] at f4 ⊢
          rw [uN_n (by omega), uN_s]
          omega
      · have ln : left - 2 ^ (f / 2) ≠ 0 := fun z => by
          rw [z] at pr
          have : pc 0 = 0 := by decide
          omega
        rw [T_eq D m f ln]
        refine mnT_congr (fun t ht => ⟨rfl, fun _ => ?_⟩)
        unfold Gk
        rw [if_neg (by omega), show k + 1 - 1 = k by omega, uN_s]
      · have z : left - 2 ^ (f / 2) = 0 := pc_pos _ (by omega) (by omega)
        rw [z, T_0]
theorem few29 {rest : Ar} {D : Nat → Nat → Nat} {m A : Nat} (hb : DB D m) (hm : m ≤ 9) (hA : A = 2 ^ m - 1) (hR : ∀ l, l < 2 ^ m → TbR rest D m l) (P : Nat → Nat) : whileV (fun s => X10_few_L29 (nI m) rest (nI A) s.1 s.2) (nI 100000000, nI 0) = some (nI (rf (mnT (Gk D m P 0 A) (fun to => A.testBit (to / 2)) (2 * m)))) := by
  have tm : (2 : Int32) * nI m = nI (2 * m) := pk_mul 2 m
  have l5 := p512 hm
  have p1 : 1 ≤ 2 ^ m := Nat.two_pow_pos m
  obtain ⟨F, hF⟩ : ∃ F : Nat → Nat, ∀ k, F k = mnT (Gk D m P 0 A) (fun to => A.testBit (to / 2)) k := ⟨_, fun _ => rfl⟩
  rw [← hF]
  obtain ⟨x, h1, h2⟩ := whileV_up (body := fun s => X10_few_L29 (nI m) rest (nI A) s.1 s.2) (2 * m)
    (fun k s => s.1 = nI (rf (F k)) ∧ s.2 = nI k) (fun x => x = nI (rf (F (2 * m))))
    (fun k s hk hs => by
      obtain ⟨x, i⟩ := s
      obtain ⟨rfl, rfl⟩ := hs
      left
      refine ⟨(nI (rf (F (k + 1))), nI (k + 1)), ?_, rfl, rfl⟩
      show X10_few_L29 (nI m) rest (nI A) (nI (rf (F k))) (nI k) = _
      have c : A.testBit (k / 2) = true := by rw [hA, Nat.testBit_two_pow_sub_one]; exact decide_eq_true (by omega)
      have pp : 0 < 2 ^ (k / 2) := Nat.two_pow_pos _
      have ge := bit_ge c
      have an := and_not A (by omega) (k / 2) (by omega) c
      have nf := (pc_rem A (by omega) (k / 2) (by omega) c).2
      have rd : ag rest (nI (18 * (A - 2 ^ (k / 2)) + k)) = nI (rf (T D m (A - 2 ^ (k / 2)) k)) := by rw [ag_nI (by omega), hR _ (by omega) k hk nf]
      have Tf := T_f hb hm (show A - 2 ^ (k / 2) < 512 by omega) hk
      have M := mnT_le (Gk D m P 0 A) (fun to => A.testBit (to / 2)) k
      have g : Gk D m P 0 A k = T D m (A - 2 ^ (k / 2)) k := by unfold Gk; rw [if_pos rfl, Nat.zero_add]
      have Fs : F (k + 1) = min (F k) (T D m (A - 2 ^ (k / 2)) k) := by rw [hF, hF, mnT_s, if_pos c, g]
      rw [← hF] at M
      rw [Fs]
      generalize F k = x at M ⊢
      unfold X10_few_L29
      rw [tm, if_neg (nI_ge hk (by omega)), div2 (by omega), an, i18, ck_t (ix_nI (show 18 * (A - 2 ^ (k / 2)) + k < 9216 by omega) (by decide)), nm_eq, nm_eq, rd, nI_1]
      generalize T D m (A - 2 ^ (k / 2)) k = w at Tf ⊢
      have r1 : rf x ≤ 100000000 := by unfold rf; split <;> omega
      have r2 : rf w ≤ 100000000 := by unfold rf; split <;> omega
      have key : min (rf x) (rf w) = rf (min x w) := by unfold rf; split <;> split <;> split <;> omega
      rw [mn_nI (by omega) (by omega), key])
    (fun s hs => by
      obtain ⟨x, i⟩ := s
      obtain ⟨rfl, rfl⟩ := hs
      refine ⟨nI (rf (F (2 * m))), ?_, rfl⟩
      show X10_few_L29 (nI m) rest (nI A) (nI (rf (F (2 * m)))) (nI (2 * m)) = _
      unfold X10_few_L29
      rw [tm, if_pos (nI_le (Nat.le_refl _) (by omega))]) 0 (nI 100000000, nI 0) (Nat.zero_le _) ⟨by
        show nI 100000000 = nI (rf (F 0))
        rw [hF]; rfl, rfl⟩
  rw [h2] at h1
  exact h1
theorem few_ok {len tu pn pl : Ar} {D : Nat → Nat → Nat} {m : Nat} (hL : LenOK len D m) (h : TurOK tu D m) (hb : DB D m) (hm : m ≤ 9) (rests rest : Ar) :
    ∃ rests' rest', X3_measureRests rests len (nI m) = some rests' ∧ ((∃ pn' pl' P, X3_followRests 0 rests' pn len (nI m) = some (1, nI m, pn') ∧ X10_few (nI m) pl rest tu = some (nI (sP D P m), pl', rest') ∧ PlOK pn' P m ∧ PlOK pl' P m ∧ sP D P m < 1000000 ∧ RowD P m) ∨
      ∃ sz pn' pl', X3_followRests 0 rests' pn len (nI m) = some (0, sz, pn') ∧ X10_few (nI m) pl rest tu = some (-1, pl', rest')) := by
  have l5 := p512 hm
  have p1 : 1 ≤ 2 ^ m := Nat.two_pow_pos m
  have sh : (1 : Int32) <<< (nI m &&& 31) - 1 = nI (2 ^ m - 1) := by rw [nI_shl1 (by omega)]; exact pk_sub (b := 1) p1
  obtain ⟨rests', a1, a2⟩ := measureRests_ok hL hb hm rests
  obtain ⟨rest', b1, b2⟩ := tables_ok h hb hm rest
  refine ⟨rests', rest', a1, ?_⟩
  by_cases m0 : m = 0
  · subst m0
    left
    refine ⟨pn, pl, fun _ => 0, ?_, ?_, fun i hi => by omega, fun i hi => by omega, by show 0 < 1000000; omega, fun i j _ hj => by omega⟩
    · unfold X3_followRests
      rw [whileV_end (s := ((0 : Int32), pn, (0 : Int32), (-1 : Int32), (0 : Int32))) (r := .inl (0, pn)) (by show X3_followRests_L7 rests' len (nI 0) 0 pn 0 (-1) 0 = _; unfold X3_followRests_L7; rw [if_pos (by decide)])]
      rfl
    · unfold X10_few X10_few_b26
      rw [b1, bnd_some, nm_eq, if_pos (show nI 0 = 0 from rfl)]
      rw [whileV_end (s := ((0 : Int32), (0 : Int32))) (r := 0) (by show X10_few_L29 (nI 0) rest' _ 0 0 = _; unfold X10_few_L29; rw [if_pos (by decide)])]
      rw [bnd_some, if_pos (by decide)]
      rw [whileV_end (s := (pl, (1 : Int32) <<< (nI 0 &&& 31) - 1, (0 : Int32), (0 : Int32))) (r := pl) (by show X10_few_L85 (nI 0) rest' tu 0 pl _ 0 0 = _; unfold X10_few_L85; rw [if_pos (by decide)])]
      rfl
  · have P0 : Nat → Nat := fun _ => 0
    have w := few29 hb hm rfl b2 P0
    have M := mnT_le (Gk D m P0 0 (2 ^ m - 1)) (fun to => (2 ^ m - 1).testBit (to / 2)) (2 * m)
    have ef : ∀ k0, X10_few (nI m) pl rest tu = X10_few_b26 (nI m) pl rest' tu (nI (2 ^ m - 1)) 100000000 ∨ k0 = 1 := fun k0 => by
      left
      unfold X10_few
      rw [b1, bnd_some, nm_eq, sh, if_neg (show ¬ nI m = 0 from nI_ne (b := 0) (by omega) (by decide) m0)]
    have ef : X10_few (nI m) pl rest tu = X10_few_b26 (nI m) pl rest' tu (nI (2 ^ m - 1)) 100000000 := by
      rcases ef 0 with q | q
      · exact q
      · omega
    have all0 : nI (2 ^ m - 1 - (2 ^ m - 1)) = 0 := by rw [Nat.sub_self]; rfl
    by_cases c : mnT (Gk D m P0 0 (2 ^ m - 1)) (fun to => (2 ^ m - 1).testBit (to / 2)) (2 * m) = 1000000
    · right
      have hG : ∀ to, to < 2 * m → (2 ^ m - 1).testBit (to / 2) = true → X3_restThrough rests' len (nI (2 ^ m - 1 - (2 ^ m - 1))) (-1) (nI to) = some (nI (Gk D m P0 0 (2 ^ m - 1) to)) ∧ Gk D m P0 0 (2 ^ m - 1) to < 2 ^ 31 := fun to ht hbit => by
        have Tf := T_f hb hm (show 2 ^ m - 1 - 2 ^ (to / 2) < 512 from Nat.lt_of_le_of_lt (Nat.sub_le _ _) (by omega)) ht
        unfold Gk
        rw [if_pos rfl]
        exact ⟨restThrough0 hb hm (by omega) ht hbit (fun l hl => a2 l hl), by omega⟩
      rcases firstOfFew_ok hm (show 2 ^ m - 1 < 2 ^ m by omega) hG with ⟨_, z⟩ | ⟨_, _, _, _, _, z, _⟩
      · rw [all0] at z
        refine ⟨0, pn, pl, ?_, ?_⟩
        · unfold X3_followRests
          rw [whileV_end (s := ((0 : Int32), pn, (0 : Int32), (-1 : Int32), (0 : Int32))) (r := .inr (0, pn)) (by
            show X3_followRests_L7 rests' len (nI m) 0 pn 0 (-1) 0 = _
            unfold X3_followRests_L7
            rw [if_neg (show ¬ nI m ≤ 0 from nI_nle (by omega) (by omega)), z, bnd_some, if_pos rfl])]
          rfl
        · rw [ef]
          unfold X10_few_b26
          have w' : whileV (fun s => X10_few_L29 (nI m) rest' (nI (2 ^ m - 1)) s.1 s.2) (100000000, 0) = _ := w
          rw [w', bnd_some, c, if_neg (by decide)]
      · omega
    · left
      have rl : rf (mnT (Gk D m P0 0 (2 ^ m - 1)) (fun to => (2 ^ m - 1).testBit (to / 2)) (2 * m)) = mnT (Gk D m P0 0 (2 ^ m - 1)) (fun to => (2 ^ m - 1).testBit (to / 2)) (2 * m) := by unfold rf; rw [if_neg c]
      rw [rl] at w
      obtain ⟨B, hB⟩ : ∃ B, B = mnT (Gk D m P0 0 (2 ^ m - 1)) (fun to => (2 ^ m - 1).testBit (to / 2)) (2 * m) := ⟨_, rfl⟩
      rw [← hB] at w c M
      obtain ⟨pn', pl', P', i1, i2, i3, i4, i5, i6⟩ := few_sim (B := B) hL h hb hm a2 b2 (nI B) m 0 (2 ^ m - 1) B (-1) pn pl P0 (by omega) (by omega) (pc_all m hm) (fun i hi => by omega) (fun i hi => by omega) (fun i j _ hj => by omega) (Or.inl ⟨rfl, rfl⟩) (by omega) (by show B + 0 = B; omega) (fun _ => hB) (fun z => by omega)
      rw [all0] at i1
      refine ⟨pn', pl', P', ?_, ?_, i3, i4, by omega, i6⟩
      · unfold X3_followRests
        have i1' : whileV (fun s => X3_followRests_L7 rests' len (nI m) s.1 s.2.1 s.2.2.1 s.2.2.2.1 s.2.2.2.2) (0, pn, 0, -1, 0) = some (.inl (nI m, pn')) := i1
        rw [i1']
        rfl
      · rw [ef]
        unfold X10_few_b26
        have i2' : whileV (fun s => X10_few_L85 (nI m) rest' tu (nI B) s.1 s.2.1 s.2.2.1 s.2.2.2) (pl, nI (2 ^ m - 1), nI B, 0) = some pl' := i2
        have w' : whileV (fun s => X10_few_L29 (nI m) rest' (nI (2 ^ m - 1)) s.1 s.2) (100000000, 0) = _ := w
        rw [w', bnd_some, if_pos (show nI B < 100000000 from nI_lt (b := 100000000) (by omega) (by decide)), i2', bnd_some, i5]
