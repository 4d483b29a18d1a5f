/-! the least sum of the rows that are left -/
def TT (D : Nat → Nat → Nat) (m : Nat) : Nat → Nat → Nat → Nat
  | 0, _, _ => 0
  | k + 1, left, at' => if left = 0 then 0 else mnT (fun to => D (tw at') to + TT D m k (left - 2 ^ (to / 2)) to) (fun to => left.testBit (to / 2)) (2 * m)
theorem TT_s (D : Nat → Nat → Nat) (m k left a : Nat) : TT D m (k + 1) left a = if left = 0 then 0 else mnT (fun to => D (tw a) to + TT D m k (left - 2 ^ (to / 2)) to) (fun to => left.testBit (to / 2)) (2 * m) := rfl
theorem TT_0 (D : Nat → Nat → Nat) (m k a : Nat) : TT D m k 0 a = 0 := by
  cases k with
  | zero => rfl
  | succ k => rw [TT_s, if_pos rfl]
theorem bit_ge {d r : Nat} (h : d.testBit r = true) : 2 ^ r ≤ d := Nat.ge_two_pow_of_testBit h
theorem TT_fuel (D : Nat → Nat → Nat) (m : Nat) : ∀ k left a k', left ≤ k → left ≤ k' → TT D m k left a = TT D m k' left a := by
  intro k
  induction k with
  | zero => intro left a k' h h'; rw [show left = 0 by omega, TT_0, TT_0]
  | succ k ih =>
    intro left a k' h h'
    cases k' with
    | zero => rw [show left = 0 by omega, TT_0, TT_0]
    | succ k' =>
      rw [TT_s, TT_s]
      by_cases c : left = 0
      · rw [if_pos c, if_pos c]
      · rw [if_neg c, if_neg c]
        refine mnT_congr (fun t ht => ⟨rfl, fun hb => ?_⟩)
        have g := bit_ge hb
        have p : 0 < 2 ^ (t / 2) := Nat.two_pow_pos _
        rw [ih (left - 2 ^ (t / 2)) t k' (by omega) (by omega)]
def T (D : Nat → Nat → Nat) (m left a : Nat) : Nat := TT D m left left a
theorem T_0 (D : Nat → Nat → Nat) (m a : Nat) : T D m 0 a = 0 := rfl
theorem T_eq (D : Nat → Nat → Nat) (m a : Nat) {left : Nat} (h : left ≠ 0) : T D m left a = mnT (fun to => D (tw a) to + T D m (left - 2 ^ (to / 2)) to) (fun to => left.testBit (to / 2)) (2 * m) := by
  obtain ⟨k, rfl⟩ : ∃ k, left = k + 1 := ⟨left - 1, by omega⟩
  show TT D m (k + 1) (k + 1) a = _
  rw [TT_s, if_neg h]
  refine mnT_congr (fun t ht => ⟨rfl, fun hb => ?_⟩)
  have g := bit_ge hb
  have p : 0 < 2 ^ (t / 2) := Nat.two_pow_pos _
  unfold T
  rw [TT_fuel D m k (k + 1 - 2 ^ (t / 2)) t (k + 1 - 2 ^ (t / 2)) (by omega) (by omega)]
theorem T_bd {D : Nat → Nat → Nat} {m : Nat} (hb : DB D m) (hm : m ≤ 9) : ∀ n left a, left = n → left < 512 → a < 2 * m → T D m left a ≤ 16807 * pc left ∨ T D m left a = 1000000 := by
  intro n
  induction n using Nat.strongRecOn with
  | _ n ih =>
    intro left a e hl ha
    by_cases c : left = 0
    · rw [c, T_0]; exact Or.inl (Nat.zero_le _)
    · rw [T_eq D m a c]
      refine mnT_bd (fun t ht hbit => ?_)
      have g := bit_ge hbit
      have p : 0 < 2 ^ (t / 2) := Nat.two_pow_pos _
      have q := (pc_rem left hl (t / 2) (by omega) hbit).1
      have I := ih (left - 2 ^ (t / 2)) (by omega) _ t rfl (by omega) ht
      have d := hb (tw a) t (tw_lt ha) ht
      omega
theorem pc_le (d : Nat) : pc d ≤ 9 := cnt_le _ _
theorem T_f {D : Nat → Nat → Nat} {m left a : Nat} (hb : DB D m) (hm : m ≤ 9) (hl : left < 512) (ha : a < 2 * m) : T D m left a ≤ 151263 ∨ T D m left a = 1000000 := by
  have := T_bd hb hm left left a rfl hl ha
  have := pc_le left
  omega
theorem p512 {m : Nat} (hm : m ≤ 9) : 2 ^ m ≤ 512 := Nat.pow_le_pow_right (n := 2) (by omega) hm
theorem bit_m {d r m : Nat} (hd : d < 2 ^ m) (h : d.testBit r = true) : r < m := by
  rcases Nat.lt_or_ge r m with q | q
  · exact q
  · have a := bit_ge h
    have b := Nat.pow_le_pow_right (n := 2) (by omega) q
    omega
/-- the reference's table -/
def TbR (rest : Ar) (D : Nat → Nat → Nat) (m left : Nat) : Prop := ∀ a, a < 2 * m → left.testBit (a / 2) = false → rest (18 * left + a) = nI (rf (T D m left a))
theorem i18 (d a : Nat) : (18 : Int32) * nI d + nI a = nI (18 * d + a) := by rw [show (18 : Int32) * nI d = nI (18 * d) from pk_mul 18 d, nI_add]
theorem tab38 {tu rest : Ar} {D : Nat → Nat → Nat} {m left a : Nat} (h : TurOK tu D m) (hb : DB D m) (hm : m ≤ 9) (hl : left < 2 ^ m) (ha : a < 2 * m) (hT : ∀ l, l < left → TbR rest D m l) :
    ∃ v, whileV (fun s => X10_tables_L38 (nI m) rest tu (nI left) (nI a) s.1 s.2) (if left = 0 then 0 else 100000000, 0) = some v ∧ (left.testBit (a / 2) = false → v = nI (rf (T D m left a))) := by
  have tm : (2 : Int32) * nI m = nI (2 * m) := pk_mul 2 m
  have l5 := p512 hm
  obtain ⟨v, h1, h2⟩ := whileV_up (body := fun s => X10_tables_L38 (nI m) rest tu (nI left) (nI a) s.1 s.2) (2 * m)
    (fun k s => s.2 = nI k ∧ (left.testBit (a / 2) = false → s.1 = if left = 0 then 0 else nI (rf (mnT (fun to => D (tw a) to + T D m (left - 2 ^ (to / 2)) to) (fun to => left.testBit (to / 2)) k))))
    (fun v => left.testBit (a / 2) = false → v = if left = 0 then 0 else nI (rf (mnT (fun to => D (tw a) to + T D m (left - 2 ^ (to / 2)) to) (fun to => left.testBit (to / 2)) (2 * m))))
    (fun k s hk hs => by
      obtain ⟨v, i⟩ := s
      obtain ⟨rfl, q⟩ := hs
      dsimp only at q
      left
      have bit := nI_bit (b := left) (k := k / 2) (by omega) (by omega)
      have bb : ∀ v : Int32, X10_tables_b38_133 (nI left) (nI a) v (nI k) = some (.inl (v, nI (k + 1))) := fun v => by unfold X10_tables_b38_133; rw [nm_eq, nI_1]
      rw [mnT_s]
      by_cases c : left.testBit (k / 2) = true
      · have ge := bit_ge c
        have pp : 0 < 2 ^ (k / 2) := Nat.two_pow_pos _
        have l0 : left ≠ 0 := by omega
        rw [if_pos c] at bit
        have n0 : ¬ (1 : Int32) = 0 := by decide
        by_cases e : k / 2 = a / 2
        · refine ⟨(v, nI (k + 1)), ?_, rfl, fun z => ?_⟩
          · show X10_tables_L38 (nI m) rest tu (nI left) (nI a) v (nI k) = _
            unfold X10_tables_L38
            rw [tm, if_neg (nI_ge hk (by omega)), div2 (by omega), div2 (by omega), bit, if_neg n0, if_pos (by rw [e]), bb]
          · rw [← e, c] at z; exact absurd z (by decide)
        · have t1 := turnOf_ok h (by omega) (tw_lt ha) hk
          have an := and_not left (by omega) (k / 2) (by omega) c
          have nf := (pc_rem left (by omega) (k / 2) (by omega) c).2
          have rd : ag rest (nI (18 * (left - 2 ^ (k / 2)) + k)) = nI (rf (T D m (left - 2 ^ (k / 2)) k)) := by rw [ag_nI (by omega), hT _ (by omega) k hk nf]
          have ic := ix_nI (show 18 * (left - 2 ^ (k / 2)) + k < 9216 by omega) (show 9216 < 2 ^ 31 by decide)
          have Tf := T_f hb hm (show left - 2 ^ (k / 2) < 512 by omega) hk
          have M := mnT_le (fun to => D (tw a) to + T D m (left - 2 ^ (to / 2)) to) (fun to => left.testBit (to / 2)) k
          have body : ∀ x : Nat, x < 2 ^ 31 → (bnd (X10_turnOf tu (nI a ^^^ 1) (nI k)) fun r_79 => if 0 ≤ r_79 then (ck (ix ((18 * (nI left &&& (((1 : Int32) <<< ((nI k / 2) &&& 31)) ^^^ (-1)))) + nI k) 9216) <| X10_tables_b38_118 (nI left) (nI a) v (nI k) (r_79 + (ag rest ((18 * (nI left &&& (((1 : Int32) <<< ((nI k / 2) &&& 31)) ^^^ (-1)))) + nI k)))) else (X10_tables_b38_118 (nI left) (nI a) v (nI k) 100000000)) = X10_tables_b38_118 (nI left) (nI a) v (nI k) (nI (if D (tw a) k = 1000000 then 100000000 else D (tw a) k + rf (T D m (left - 2 ^ (k / 2)) k))) := fun x _ => by
            rw [tw_nI, t1, bnd_some, div2 (by omega), an, i18]
            rcases hb _ _ (tw_lt ha) hk with z | z
            · rw [tnv_f z, if_pos (show (0 : Int32) ≤ nI (D (tw a) k) from nI_le (a := 0) (Nat.zero_le _) (by omega)), ck_t ic, rd, nI_add, if_neg (by omega)]
            · rw [z, tnv_n, if_neg (by decide), if_pos rfl]; rfl
          have e2 : X10_tables_L38 (nI m) rest tu (nI left) (nI a) v (nI k) = X10_tables_b38_118 (nI left) (nI a) v (nI k) (nI (if D (tw a) k = 1000000 then 100000000 else D (tw a) k + rf (T D m (left - 2 ^ (k / 2)) k))) := by
            rw [← body 0 (by omega)]
            unfold X10_tables_L38
            rw [tm, if_neg (nI_ge hk (by omega)), div2 (by omega), div2 (by omega), bit, if_neg n0, if_neg (nI_ne (by omega) (by omega) e)]
          by_cases z : left.testBit (a / 2) = false
          · have qv := q z
            rw [if_neg l0] at qv
            refine ⟨(nI (rf (min (mnT (fun to => D (tw a) to + T D m (left - 2 ^ (to / 2)) to) (fun to => left.testBit (to / 2)) k) (D (tw a) k + T D m (left - 2 ^ (k / 2)) k))), nI (k + 1)), ?_, rfl, fun _ => by rw [if_neg l0, if_pos c]⟩
            show X10_tables_L38 (nI m) rest tu (nI left) (nI a) v (nI k) = _
            rw [e2, qv]
            generalize mnT (fun to => D (tw a) to + T D m (left - 2 ^ (to / 2)) to) (fun to => left.testBit (to / 2)) k = x at M ⊢
            have db := hb _ _ (tw_lt ha) hk
            generalize D (tw a) k = y at db ⊢
            generalize T D m (left - 2 ^ (k / 2)) k = w at Tf ⊢
            have key : min (rf x) (if y = 1000000 then 100000000 else y + rf w) = rf (min x (y + w)) := by
              unfold rf
              split <;> split <;> split <;> (try split) <;> omega
            have rl : rf x ≤ 100000000 := by unfold rf; split <;> omega
            have yl : (if y = 1000000 then 100000000 else y + rf w) ≤ 200000000 := by unfold rf; split <;> (try split) <;> omega
            rw [← key]
            generalize (if y = 1000000 then 100000000 else y + rf w) = u at yl ⊢
            unfold X10_tables_b38_118 X10_tables_b38_132
            by_cases le : rf x ≤ u
            · rw [if_pos (nI_le le (by omega)), bb, Nat.min_eq_left le]
            · rw [if_neg (nI_ge (by omega) (by omega)), bb, Nat.min_eq_right (by omega)]
          · generalize (nI (if D (tw a) k = 1000000 then 100000000 else D (tw a) k + rf (T D m (left - 2 ^ (k / 2)) k))) = u at e2
            by_cases le : v ≤ u
            · refine ⟨(v, nI (k + 1)), ?_, rfl, fun y => absurd y z⟩
              show X10_tables_L38 (nI m) rest tu (nI left) (nI a) v (nI k) = _
              rw [e2]
              unfold X10_tables_b38_118 X10_tables_b38_132
              rw [if_pos le, bb]
            · refine ⟨(u, nI (k + 1)), ?_, rfl, fun y => absurd y z⟩
              show X10_tables_L38 (nI m) rest tu (nI left) (nI a) v (nI k) = _
              rw [e2]
              unfold X10_tables_b38_118 X10_tables_b38_132
              rw [if_neg le, bb]
      · rw [if_neg c] at bit
        refine ⟨(v, nI (k + 1)), ?_, rfl, fun z => by rw [if_neg c]; exact q z⟩
        show X10_tables_L38 (nI m) rest tu (nI left) (nI a) v (nI k) = _
        unfold X10_tables_L38
        rw [tm, if_neg (nI_ge hk (by omega)), div2 (by omega), div2 (by omega), bit, if_pos rfl, bb])
    (fun s hs => by
      obtain ⟨v, i⟩ := s
      obtain ⟨rfl, q⟩ := hs
      refine ⟨v, ?_, q⟩
      show X10_tables_L38 (nI m) rest tu (nI left) (nI a) v (nI (2 * m)) = _
      unfold X10_tables_L38
      rw [tm, if_pos (nI_le (Nat.le_refl _) (by omega))]) 0 (if left = 0 then 0 else 100000000, 0) (by omega) ⟨rfl, fun _ => by
        by_cases c : left = 0
        · show (if left = 0 then (0 : Int32) else 100000000) = _
          rw [if_pos c, if_pos c]
        · show (if left = 0 then (0 : Int32) else 100000000) = _
          rw [if_neg c, if_neg c]; rfl⟩
  refine ⟨v, h1, fun z => ?_⟩
  rw [h2 z]
  by_cases c : left = 0
  · rw [if_pos c, c, T_0]; rfl
  · rw [if_neg c, T_eq D m a c]
theorem tables_ok {tu : Ar} {D : Nat → Nat → Nat} {m : Nat} (h : TurOK tu D m) (hb : DB D m) (hm : m ≤ 9) (rest : Ar) : ∃ rest', X10_tables (nI m) rest tu = some rest' ∧ ∀ l, l < 2 ^ m → TbR rest' D m l := by
  have tm : (2 : Int32) * nI m = nI (2 * m) := pk_mul 2 m
  have sh : (1 : Int32) <<< (nI m &&& 31) = nI (2 ^ m) := nI_shl1 (by omega)
  have l5 := p512 hm
  obtain ⟨rest', h1, h2⟩ := whileV_up (body := fun s => X10_tables_L2 (nI m) tu s.1 s.2) (2 ^ m)
    (fun k s => s.2 = nI k ∧ ∀ l, l < k → TbR s.1 D m l) (fun r => ∀ l, l < 2 ^ m → TbR r D m l)
    (fun k s hk hs => by
      obtain ⟨rest, i⟩ := s
      obtain ⟨rfl, q⟩ := hs
      dsimp only at q
      left
      obtain ⟨r2, g1, g2, g3⟩ := whileV_up (body := fun s => X10_tables_L14 (nI m) tu (nI k) s.1 s.2) (2 * m)
        (fun a s => s.2 = nI a ∧ (∀ l, l < k → TbR s.1 D m l) ∧ ∀ b, b < a → k.testBit (b / 2) = false → s.1 (18 * k + b) = nI (rf (T D m k b)))
        (fun r => (∀ l, l < k → TbR r D m l) ∧ TbR r D m k)
        (fun a s ha hs => by
          obtain ⟨r, i⟩ := s
          obtain ⟨rfl, y1, y2⟩ := hs
          dsimp only at y1 y2
          left
          obtain ⟨v, v1, v2⟩ := tab38 h hb hm hk ha y1
          have au1 : ∀ x, au r (nI (18 * k + a)) x = upd r (18 * k + a) x := fun x => au_nI (by omega)
          refine ⟨(upd r (18 * k + a) v, nI (a + 1)), ?_, rfl, fun l hl b hb2 hbit => ?_, fun b hb2 hbit => ?_⟩
          · show X10_tables_L14 (nI m) tu (nI k) r (nI a) = _
            have e : X10_tables_L14 (nI m) tu (nI k) r (nI a) = X10_tables_b14_34 (nI m) r tu (nI k) (nI a) (if k = 0 then 0 else 100000000) := by
              unfold X10_tables_L14
              rw [tm, if_neg (nI_ge ha (by omega))]
              by_cases c : k = 0
              · rw [if_pos (by rw [c]; rfl), if_pos c]
              · rw [if_neg (show ¬ nI k = 0 from nI_ne (b := 0) (by omega) (by decide) c), if_neg c]
            rw [e]
            unfold X10_tables_b14_34
            rw [v1, bnd_some, i18, ck_t (ix_nI (show 18 * k + a < 9216 by omega) (by decide)), nm_eq, nm_eq, au1, nI_1]
          · show upd r (18 * k + a) v (18 * l + b) = _
            rw [upd_at, if_neg (by omega)]; exact y1 l hl b hb2 hbit
          · show upd r (18 * k + a) v (18 * k + b) = _
            rw [upd_at]
            by_cases e : b = a
            · rw [if_pos (by rw [e]), e]; exact v2 (e ▸ hbit)
            · rw [if_neg (by omega)]; exact y2 b (by omega) hbit)
        (fun s hs => by
          obtain ⟨r, i⟩ := s
          obtain ⟨rfl, y1, y2⟩ := hs
          refine ⟨r, ?_, y1, y2⟩
          show X10_tables_L14 (nI m) tu (nI k) r (nI (2 * m)) = _
          unfold X10_tables_L14
          rw [tm, if_pos (nI_le (Nat.le_refl _) (by omega))]) 0 (rest, 0) (by omega) ⟨rfl, q, fun b hb => by omega⟩
      refine ⟨(r2, nI (k + 1)), ?_, rfl, fun l hl => ?_⟩
      · show X10_tables_L2 (nI m) tu rest (nI k) = _
        unfold X10_tables_L2
        rw [sh, if_neg (nI_ge hk (by omega)), g1, bnd_some, nm_eq, nI_1]
      · by_cases e : l = k
        · rw [e]; exact g3
        · exact g2 l (by omega))
    (fun s hs => by
      obtain ⟨rest, i⟩ := s
      obtain ⟨rfl, q⟩ := hs
      refine ⟨rest, ?_, q⟩
      show X10_tables_L2 (nI m) tu rest (nI (2 ^ m)) = _
      unfold X10_tables_L2
      rw [sh, if_pos (nI_le (Nat.le_refl _) (by omega))]) 0 (rest, 0) (Nat.zero_le _) ⟨rfl, fun l hl => by omega⟩
  refine ⟨rest', ?_, h2⟩
  unfold X10_tables
  rw [h1, bnd_some]
