/-! the sum of a plan; turning round -/
def sP (D : Nat → Nat → Nat) (P : Nat → Nat) : Nat → Nat
  | 0 => 0
  | k + 1 => sP D P k + if k = 0 then 0 else D (tw (P (k - 1))) (P k)
theorem sP_s (D : Nat → Nat → Nat) (P : Nat → Nat) (k : Nat) : sP D P (k + 1) = sP D P k + if k = 0 then 0 else D (tw (P (k - 1))) (P k) := rfl
theorem sP_mono {D : Nat → Nat → Nat} {P : Nat → Nat} {k n : Nat} (h : k ≤ n) : sP D P k ≤ sP D P n := by
  induction n with
  | zero => rw [show k = 0 by omega]; exact Nat.le_refl _
  | succ n ih =>
    by_cases e : k = n + 1
    · rw [e]; exact Nat.le_refl _
    · have := ih (by omega); rw [sP_s]; omega
/-- a plan as an array -/
def PlOK (pn : Ar) (P : Nat → Nat) (m : Nat) : Prop := ∀ k, k < m → pn k = nI (P k) ∧ P k < 2 * m
theorem sum_ok {len pn : Ar} {D : Nat → Nat → Nat} {P : Nat → Nat} {m : Nat} (h : LenOK len D m) (hb : DB D m) (hm : m ≤ 60) (hP : PlOK pn P m) : X2_sum (nI m) pn len = some (nI (min (sP D P m) 1000000)) ∧ (sP D P m < 1000000 → sP D P m ≤ 16807 * 59) := by
  by_cases m0 : m = 0
  · subst m0
    refine ⟨?_, fun _ => Nat.zero_le _⟩
    unfold X2_sum
    rw [whileV_end (s := ((0 : Int32), (1 : Int32))) (r := .inl 0) (by show X2_sum_L4 (nI 0) pn len 0 1 = _; unfold X2_sum_L4; rw [if_pos (by decide)])]
    rfl
  obtain ⟨x, h1, h3⟩ := whileV_up (body := fun s => X2_sum_L4 (nI m) pn len s.1 s.2) m
    (fun k s => s = (nI (sP D P k), nI k) ∧ 0 < k ∧ sP D P k ≤ 16807 * (k - 1)) (fun x => (sP D P m ≤ 16807 * (m - 1) ∧ x = .inl (nI (sP D P m))) ∨ (1000000 ≤ sP D P m ∧ x = .inr ()))
    (fun k s hk hs => by
      obtain ⟨rfl, k0, q⟩ := hs
      have s1 : nI k - 1 = nI (k - 1) := pk_sub (b := 1) k0
      obtain ⟨p1, p2⟩ := hP k hk
      obtain ⟨p3, p4⟩ := hP (k - 1) (by omega)
      have a1 : ag pn (nI k) = nI (P k) := by rw [ag_nI (by omega), p1]
      have a2 : ag pn (nI (k - 1)) = nI (P (k - 1)) := by rw [ag_nI (by omega), p3]
      have L := length_ok h hm (tw_lt p4) p2
      have e : sP D P (k + 1) = sP D P k + D (tw (P (k - 1))) (P k) := by rw [sP_s, if_neg (by omega)]
      have mono := sP_mono (D := D) (P := P) (show k + 1 ≤ m by omega)
      rcases hb _ _ (tw_lt p4) p2 with z | z
      · left
        refine ⟨(nI (sP D P (k + 1)), nI (k + 1)), ?_, rfl, by omega, by omega⟩
        show X2_sum_L4 (nI m) pn len (nI (sP D P k)) (nI k) = _
        unfold X2_sum_L4
        rw [if_neg (nI_ge hk (by omega)), s1, ck_t (ix_nI (show k - 1 < 60 by omega) (by decide)), ck_t (ix_nI (show k < 60 by omega) (by decide)), a1, a2, tw_nI, L, bnd_some, if_pos (show nI (D (tw (P (k - 1))) (P k)) < 1000000 from nI_lt (b := 1000000) (by omega) (by decide)), nm_eq, nm_eq, nI_add, nI_1, e]
      · right
        refine ⟨.inr (), ?_, Or.inr ⟨by omega, rfl⟩⟩
        show X2_sum_L4 (nI m) pn len (nI (sP D P k)) (nI k) = _
        unfold X2_sum_L4
        rw [if_neg (nI_ge hk (by omega)), s1, ck_t (ix_nI (show k - 1 < 60 by omega) (by decide)), ck_t (ix_nI (show k < 60 by omega) (by decide)), a1, a2, tw_nI, L, bnd_some, z, if_neg (by decide)])
    (fun s hs => by
      obtain ⟨rfl, k0, q⟩ := hs
      refine ⟨.inl (nI (sP D P m)), ?_, Or.inl ⟨q, rfl⟩⟩
      show X2_sum_L4 (nI m) pn len (nI (sP D P m)) (nI m) = _
      unfold X2_sum_L4
      rw [if_pos (nI_le (Nat.le_refl _) (by omega))]) 1 (0, 1) (by omega) ⟨rfl, by omega, Nat.zero_le _⟩
  unfold X2_sum
  rw [h1, bnd_some]
  rcases h3 with ⟨q, rfl⟩ | ⟨q, rfl⟩
  · exact ⟨by rw [Sum.elim_inl, Nat.min_eq_left (by omega)], fun _ => by omega⟩
  · exact ⟨by rw [Sum.elim_inr, Nat.min_eq_right q]; rfl, fun z => by omega⟩
/-- a sum as the reference says it -/
def svR (v : Nat) : Int32 := if v < 1000000 then nI v else -1
theorem sumR_ok {tu pn : Ar} {D : Nat → Nat → Nat} {P : Nat → Nat} {m : Nat} (h : TurOK tu D m) (hb : DB D m) (hm : m ≤ 60) (hP : PlOK pn P m) : X10_sumOf (nI m) pn tu = some (svR (sP D P m)) := by
  by_cases m0 : m = 0
  · subst m0
    unfold X10_sumOf
    rw [whileV_end (s := ((0 : Int32), (1 : Int32))) (r := .inl 0) (by show X10_sumOf_L4 (nI 0) pn tu 0 1 = _; unfold X10_sumOf_L4; rw [if_pos (by decide)])]
    rfl
  obtain ⟨x, h1, h3⟩ := whileV_up (body := fun s => X10_sumOf_L4 (nI m) pn tu s.1 s.2) m
    (fun k s => s = (nI (sP D P k), nI k) ∧ 0 < k ∧ sP D P k ≤ 16807 * (k - 1)) (fun x => (sP D P m ≤ 16807 * (m - 1) ∧ x = .inl (nI (sP D P m))) ∨ (1000000 ≤ sP D P m ∧ x = .inr ()))
    (fun k s hk hs => by
      obtain ⟨rfl, k0, q⟩ := hs
      have s1 : nI k - 1 = nI (k - 1) := pk_sub (b := 1) k0
      obtain ⟨p1, p2⟩ := hP k hk
      obtain ⟨p3, p4⟩ := hP (k - 1) (by omega)
      have a1 : ag pn (nI k) = nI (P k) := by rw [ag_nI (by omega), p1]
      have a2 : ag pn (nI (k - 1)) = nI (P (k - 1)) := by rw [ag_nI (by omega), p3]
      have L := turnOf_ok h hm (tw_lt p4) p2
      have e : sP D P (k + 1) = sP D P k + D (tw (P (k - 1))) (P k) := by rw [sP_s, if_neg (by omega)]
      have mono := sP_mono (D := D) (P := P) (show k + 1 ≤ m by omega)
      rcases hb _ _ (tw_lt p4) p2 with z | z
      · left
        refine ⟨(nI (sP D P (k + 1)), nI (k + 1)), ?_, rfl, by omega, by omega⟩
        show X10_sumOf_L4 (nI m) pn tu (nI (sP D P k)) (nI k) = _
        unfold X10_sumOf_L4
        rw [if_neg (nI_ge hk (by omega)), s1, ck_t (ix_nI (show k - 1 < 60 by omega) (by decide)), ck_t (ix_nI (show k < 60 by omega) (by decide)), a1, a2, tw_nI, L, bnd_some, tnv_f z, if_pos (show (0 : Int32) ≤ nI (D (tw (P (k - 1))) (P k)) from nI_le (a := 0) (Nat.zero_le _) (by omega)), nm_eq, nm_eq, nI_add, nI_1, e]
      · right
        refine ⟨.inr (), ?_, Or.inr ⟨by omega, rfl⟩⟩
        show X10_sumOf_L4 (nI m) pn tu (nI (sP D P k)) (nI k) = _
        unfold X10_sumOf_L4
        rw [if_neg (nI_ge hk (by omega)), s1, ck_t (ix_nI (show k - 1 < 60 by omega) (by decide)), ck_t (ix_nI (show k < 60 by omega) (by decide)), a1, a2, tw_nI, L, bnd_some, z, tnv_n, if_neg (by decide)])
    (fun s hs => by
      obtain ⟨rfl, k0, q⟩ := hs
      refine ⟨.inl (nI (sP D P m)), ?_, Or.inl ⟨q, rfl⟩⟩
      show X10_sumOf_L4 (nI m) pn tu (nI (sP D P m)) (nI m) = _
      unfold X10_sumOf_L4
      rw [if_pos (nI_le (Nat.le_refl _) (by omega))]) 1 (0, 1) (by omega) ⟨rfl, by omega, Nat.zero_le _⟩
  unfold X10_sumOf svR
  rw [h1, bnd_some]
  rcases h3 with ⟨q, rfl⟩ | ⟨q, rfl⟩
  · rw [Sum.elim_inl, if_pos (by omega)]
  · rw [Sum.elim_inr, if_neg (by omega)]
/-- turned round from i to j -/
def trn (P : Nat → Nat) (i j k : Nat) : Nat := if i ≤ k ∧ k ≤ j then tw (P (i + j - k)) else P k
theorem trn_trn (P : Nat → Nat) (i j k : Nat) : trn (trn P i j) i j k = P k := by
  unfold trn
  by_cases c : i ≤ k ∧ k ≤ j
  · rw [if_pos c, if_pos (by omega), tw_tw, show i + j - (i + j - k) = k by omega]
  · rw [if_neg c, if_neg c]
theorem trn_lt {P : Nat → Nat} {i j m : Nat} (hj : j < m) (h : ∀ k, k < m → P k < 2 * m) : ∀ k, k < m → trn P i j k < 2 * m := fun k hk => by
  unfold trn
  split
  · exact tw_lt (h _ (by omega))
  · exact h k hk
theorem turnRound_ok {pn : Ar} {P : Nat → Nat} {m i j : Nat} (hm : m ≤ 60) (hP : PlOK pn P m) (hij : i ≤ j) (hj : j < m) : ∃ pn', X2_turnRound pn (nI i) (nI j) = some pn' ∧ PlOK pn' (trn P i j) m := by
  obtain ⟨x, h1, h3⟩ := whileV_up (body := fun s => X2_turnRound_L5 s.1 s.2.1 s.2.2) 61
    (fun s st => st.2.1 = nI (i + s) ∧ st.2.2 = iI ((j : Int) - s) ∧ ∀ k, k < m → st.1 k = nI (if i ≤ k ∧ k ≤ j ∧ (k < i + s ∨ j < k + s) then tw (P (i + j - k)) else P k))
    (fun x => PlOK x (trn P i j) m)
    (fun s st hs0 hst => by
      obtain ⟨f, a, b⟩ := st
      obtain ⟨rfl, rfl, q⟩ := hst
      dsimp only at q
      by_cases c : j < i + 2 * s
      · right
        refine ⟨f, ?_, fun k hk => ⟨?_, trn_lt hj (fun k hk => (hP k hk).2) k hk⟩⟩
        · show X2_turnRound_L5 f (nI (i + s)) (iI ((j : Int) - s)) = _
          unfold X2_turnRound_L5
          rw [← iI_nat, if_pos ((iI_lt (by omega) (by omega) (by omega) (by omega)).mpr (by omega))]
        · rw [q k hk]
          unfold trn
          by_cases d : i ≤ k ∧ k ≤ j
          · rw [if_pos d, if_pos (by omega)]
          · rw [if_neg d, if_neg (by omega)]
      · left
        have eb : iI ((j : Int) - s) = nI (j - s) := by rw [iI_nn (by omega)]; exact congrArg nI (by omega)
        have fa : f (i + s) = nI (P (i + s)) := by rw [q _ (by omega), if_neg (by omega)]
        have fb : f (j - s) = nI (P (j - s)) := by rw [q _ (by omega), if_neg (by omega)]
        have a1 : ag f (nI (i + s)) = nI (P (i + s)) := by rw [ag_nI (by omega), fa]
        have a2 : ag f (nI (j - s)) = nI (P (j - s)) := by rw [ag_nI (by omega), fb]
        have au1 : ∀ (f : Ar) x, au f (nI (i + s)) x = upd f (i + s) x := fun f x => au_nI (by omega)
        have au2 : ∀ (f : Ar) x, au f (nI (j - s)) x = upd f (j - s) x := fun f x => au_nI (by omega)
        have nb : nI (j - s) + (-1) = iI ((j : Int) - (s + 1 : Nat)) := by rw [← iI_nat, iI_m1, iI_add]; exact congrArg iI (by omega)
        refine ⟨(upd (upd f (i + s) (nI (tw (P (j - s))))) (j - s) (nI (tw (P (i + s)))), nI (i + s + 1), iI ((j : Int) - (s + 1 : Nat))), ?_, rfl, rfl, fun k hk => ?_⟩
        · show X2_turnRound_L5 f (nI (i + s)) (iI ((j : Int) - s)) = _
          unfold X2_turnRound_L5
          rw [eb, if_neg (nI_nlt (by omega) (by omega)), ck_t (ix_nI (show i + s < 60 by omega) (by decide)), nm_eq, ck_t (ix_nI (show j - s < 60 by omega) (by decide)), ck_t (ix_nI (show i + s < 60 by omega) (by decide)), nm_eq, ck_t (ix_nI (show j - s < 60 by omega) (by decide)), nm_eq, nm_eq, nm_eq, a1, a2, tw_nI, tw_nI, au1, au2, nI_1, nb]
        · show upd (upd f (i + s) (nI (tw (P (j - s))))) (j - s) (nI (tw (P (i + s)))) k = _
          rw [upd_at]
          by_cases e1 : k = j - s
          · rw [if_pos e1, if_pos (by omega)]
            exact congrArg nI (congrArg tw (congrArg P (by omega)))
          · rw [if_neg e1, upd_at]
            by_cases e2 : k = i + s
            · rw [if_pos e2, if_pos (by omega)]
              exact congrArg nI (congrArg tw (congrArg P (by omega)))
            · rw [if_neg e2, q k hk]
              by_cases d : i ≤ k ∧ k ≤ j ∧ (k < i + s ∨ j < k + s)
              · rw [if_pos d, if_pos (by omega)]
              · rw [if_neg d, if_neg (by omega)])
    (fun st hst => by
      obtain ⟨f, a, b⟩ := st
      obtain ⟨rfl, rfl, q⟩ := hst
      dsimp only at q
      refine ⟨f, ?_, fun k hk => ⟨?_, trn_lt hj (fun k hk => (hP k hk).2) k hk⟩⟩
      · show X2_turnRound_L5 f (nI (i + 61)) (iI ((j : Int) - (61 : Nat))) = _
        unfold X2_turnRound_L5
        rw [← iI_nat, if_pos ((iI_lt (by omega) (by omega) (by omega) (by omega)).mpr (by omega))]
      · rw [q k hk]
        unfold trn
        by_cases d : i ≤ k ∧ k ≤ j
        · rw [if_pos d, if_pos (by omega)]
        · rw [if_neg d, if_neg (by omega)]) 0 (pn, nI i, nI j) (by omega) ⟨rfl, by show nI j = iI ((j : Int) - (0 : Nat)); rw [← iI_nat]; exact congrArg iI (by omega), fun k hk => by rw [if_neg (by omega)]; exact (hP k hk).1⟩
  refine ⟨x, ?_, h3⟩
  unfold X2_turnRound
  rw [h1, bnd_some]
theorem turnsRound_eq (pn : Ar) (i j : Int32) : X10_turnsRound pn i j = X2_turnRound pn i j := rfl
/-- each row once -/
def RowD (P : Nat → Nat) (m : Nat) : Prop := ∀ i j, i < j → j < m → P i / 2 ≠ P j / 2
theorem RowD_ne {P : Nat → Nat} {m i j : Nat} (h : RowD P m) (hi : i < m) (hj : j < m) (hn : i ≠ j) : P i / 2 ≠ P j / 2 := by
  rcases Nat.lt_or_ge i j with q | q
  · exact h i j q hj
  · exact Ne.symm (h j i (by omega) hi)
theorem trn_RowD {P : Nat → Nat} {m i j : Nat} (h : RowD P m) (hj : j < m) : RowD (trn P i j) m := fun a b hab hb => by
  unfold trn
  by_cases c : i ≤ a ∧ a ≤ j
  · rw [if_pos c, tw_div]
    by_cases d : i ≤ b ∧ b ≤ j
    · rw [if_pos d, tw_div]; exact RowD_ne h (by omega) (by omega) (by omega)
    · rw [if_neg d]; exact RowD_ne h (by omega) hb (by omega)
  · rw [if_neg c]
    by_cases d : i ≤ b ∧ b ≤ j
    · rw [if_pos d, tw_div]; exact RowD_ne h (by omega) (by omega) (by omega)
    · rw [if_neg d]; exact RowD_ne h (by omega) hb (by omega)
