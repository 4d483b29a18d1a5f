/-! the rests, in class and reference -/
theorem mnT_low (g : Nat → Nat) (p : Nat → Bool) (n : Nat) : ∀ t, t < n → p t = true → mnT g p n ≤ g t := by
  induction n with
  | zero => intro t ht; omega
  | succ n ih =>
    intro t ht hp
    rw [mnT_s]
    by_cases e : t = n
    · subst e; rw [if_pos hp]; omega
    · have := ih t (by omega) hp
      split <;> omega
theorem isDone_ok {d v : Nat} (hd : d < 512) (hv : v < 18) : X3_isDone (Int32.toInt64 (nI d)) (nI v) = some (if d.testBit (v / 2) = true then 1 else 0) := by
  have h := done64 d hd (v / 2) (by omega)
  unfold X3_isDone
  rw [div2 (by omega)]
  by_cases c : d.testBit (v / 2) = true
  · rw [if_pos c, if_neg (fun e => by rw [h.mp e] at c; exact absurd c (by decide))]
  · rw [if_neg c, if_pos (h.mpr (by cases z : d.testBit (v / 2); rfl; exact absurd z c))]
theorem dn_bit {m left r : Nat} (hl : left < 2 ^ m) (hr : r < m) : (2 ^ m - 1 - left).testBit r = !left.testBit r := by
  rw [show 2 ^ m - 1 - left = 2 ^ m - (left + 1) by omega, Nat.testBit_two_pow_sub_succ hl, decide_eq_true hr, Bool.true_and]
def TbC (rests : Ar) (D : Nat → Nat → Nat) (m l : Nat) : Prop := ∀ a, a < 2 * m → l.testBit (a / 2) = false → rests (18 * (2 ^ m - 1 - l) + a) = nI (T D m l a)
theorem rest20 {rests : Ar} {D : Nat → Nat → Nat} {m left to : Nat} (hb : DB D m) (hm : m ≤ 9) (hl : left < 2 ^ m) (ht : to < 2 * m) (hbit : left.testBit (to / 2) = true) (hT : ∀ l, l < left → TbC rests D m l) (c : Nat) : X3_restThrough_b20 rests (nI (2 ^ m - 1 - left)) (nI to) (nI c) = some (nI (c + T D m (left - 2 ^ (to / 2)) to)) := by
  have l5 := p512 hm
  have ge := bit_ge hbit
  have pp : 0 < 2 ^ (to / 2) := Nat.two_pow_pos _
  have nf := (pc_rem left (by omega) (to / 2) (by omega) hbit).2
  have db := dn_bit hl (show to / 2 < m by omega)
  rw [hbit] at db
  have o := or_new (2 ^ m - 1 - left) (by omega) (to / 2) (by omega) db
  have e : 2 ^ m - 1 - left + 2 ^ (to / 2) = 2 ^ m - 1 - (left - 2 ^ (to / 2)) := by omega
  have rd := hT _ (show left - 2 ^ (to / 2) < left by omega) to ht nf
  unfold X3_restThrough_b20
  rw [div2 (by omega), nI_shl1 (by omega), nI_or, o, e, i18, ck_t (ix_nI (by omega) (by decide)), ag_nI (by omega), rd, nI_add]
theorem restThrough0 {rests len : Ar} {D : Nat → Nat → Nat} {m left to : Nat} (hb : DB D m) (hm : m ≤ 9) (hl : left < 2 ^ m) (ht : to < 2 * m) (hbit : left.testBit (to / 2) = true) (hT : ∀ l, l < left → TbC rests D m l) : X3_restThrough rests len (nI (2 ^ m - 1 - left)) (-1) (nI to) = some (nI (0 + T D m (left - 2 ^ (to / 2)) to)) := by
  unfold X3_restThrough
  rw [if_pos rfl]
  exact rest20 hb hm hl ht hbit hT 0
theorem restThrough1 {rests len : Ar} {D : Nat → Nat → Nat} {m left to l : Nat} (h : LenOK len D m) (hb : DB D m) (hm : m ≤ 9) (hl : left < 2 ^ m) (ht : to < 2 * m) (hla : l < 2 * m) (hbit : left.testBit (to / 2) = true) (hT : ∀ l, l < left → TbC rests D m l) : X3_restThrough rests len (nI (2 ^ m - 1 - left)) (nI l) (nI to) = some (nI (D (tw l) to + T D m (left - 2 ^ (to / 2)) to)) := by
  unfold X3_restThrough
  rw [if_neg (nI_m1 (by omega)), tw_nI, length_ok h (by omega) (tw_lt hla) ht, bnd_some]
  exact rest20 hb hm hl ht hbit hT _
theorem firstOfFew_ok {rests len : Ar} {m left : Nat} {lat : Int32} {G : Nat → Nat} (hm : m ≤ 9) (hl : left < 2 ^ m) (hG : ∀ to, to < 2 * m → left.testBit (to / 2) = true → X3_restThrough rests len (nI (2 ^ m - 1 - left)) lat (nI to) = some (nI (G to)) ∧ G to < 2 ^ 31) :
    (mnT G (fun to => left.testBit (to / 2)) (2 * m) = 1000000 ∧ X3_firstOfFew rests len (nI m) (nI (2 ^ m - 1 - left)) lat = some (-1)) ∨ (∃ f, f < 2 * m ∧ X3_firstOfFew rests len (nI m) (nI (2 ^ m - 1 - left)) lat = some (nI f) ∧ left.testBit (f / 2) = true ∧ G f = mnT G (fun to => left.testBit (to / 2)) (2 * m) ∧ mnT G (fun to => left.testBit (to / 2)) (2 * m) < 1000000 ∧ ∀ s, s < f → left.testBit (s / 2) = true → mnT G (fun to => left.testBit (to / 2)) (2 * m) < G s) := by
  have tm : (2 : Int32) * nI m = nI (2 * m) := pk_mul 2 m
  have l5 := p512 hm
  obtain ⟨x, h1, h2⟩ := whileV_up (body := fun s => X3_firstOfFew_L10 rests len (nI m) (nI (2 ^ m - 1 - left)) lat s.1 s.2.1 s.2.2) (2 * m)
    (fun k s => s.2.2 = nI k ∧ s.2.1 = nI (mnT G (fun to => left.testBit (to / 2)) k) ∧ ((mnT G (fun to => left.testBit (to / 2)) k = 1000000 ∧ s.1 = -1) ∨ ∃ f, f < k ∧ s.1 = nI f ∧ left.testBit (f / 2) = true ∧ G f = mnT G (fun to => left.testBit (to / 2)) k ∧ mnT G (fun to => left.testBit (to / 2)) k < 1000000 ∧ ∀ s, s < f → left.testBit (s / 2) = true → mnT G (fun to => left.testBit (to / 2)) k < G s))
    (fun x => (mnT G (fun to => left.testBit (to / 2)) (2 * m) = 1000000 ∧ x = -1) ∨ ∃ f, f < 2 * m ∧ x = nI f ∧ left.testBit (f / 2) = true ∧ G f = mnT G (fun to => left.testBit (to / 2)) (2 * m) ∧ mnT G (fun to => left.testBit (to / 2)) (2 * m) < 1000000 ∧ ∀ s, s < f → left.testBit (s / 2) = true → mnT G (fun to => left.testBit (to / 2)) (2 * m) < G s)
    (fun k s hk hs => by
      obtain ⟨v4, v5, i⟩ := s
      obtain ⟨rfl, rfl, q⟩ := hs
      dsimp only at q
      left
      have M := mnT_le G (fun to => left.testBit (to / 2)) k
      have low := mnT_low G (fun to => left.testBit (to / 2)) k
      have dn := isDone_ok (d := 2 ^ m - 1 - left) (v := k) (by omega) (by omega)
      rw [dn_bit hl (by omega)] at dn
      have bb : ∀ v4 v5 : Int32, X3_firstOfFew_b10_53 (nI m) (nI (2 ^ m - 1 - left)) lat v4 v5 (nI k) = some (.inl (v4, v5, nI (k + 1))) := fun v4 v5 => by unfold X3_firstOfFew_b10_53; rw [nm_eq, nI_1]
      have ms := mnT_s G (fun to => left.testBit (to / 2)) k
      by_cases c : left.testBit (k / 2) = true
      · rw [c, if_neg (show ¬ (!true) = true by decide)] at dn
        rw [if_pos c] at ms
        obtain ⟨g1, g2⟩ := hG k hk c
        by_cases le : mnT G (fun to => left.testBit (to / 2)) k ≤ G k
        · rw [Nat.min_eq_left le] at ms
          rw [ms]
          refine ⟨(v4, nI (mnT G (fun to => left.testBit (to / 2)) k), nI (k + 1)), ?_, rfl, rfl, ?_⟩
          · show X3_firstOfFew_L10 rests len (nI m) (nI (2 ^ m - 1 - left)) lat v4 (nI (mnT G (fun to => left.testBit (to / 2)) k)) (nI k) = _
            unfold X3_firstOfFew_L10
            rw [tm, if_neg (nI_ge hk (by omega)), dn, bnd_some, if_pos rfl, g1, bnd_some, if_pos (nI_le le (by omega)), bb]
          · rcases q with q | ⟨f, f1, f2⟩
            · exact Or.inl q
            · exact Or.inr ⟨f, by omega, f2⟩
        · rw [Nat.min_eq_right (by omega)] at ms
          rw [ms]
          refine ⟨(nI k, nI (G k), nI (k + 1)), ?_, rfl, rfl, Or.inr ⟨k, by omega, rfl, c, rfl, by omega, fun s hs hb => ?_⟩⟩
          · show X3_firstOfFew_L10 rests len (nI m) (nI (2 ^ m - 1 - left)) lat v4 (nI (mnT G (fun to => left.testBit (to / 2)) k)) (nI k) = _
            unfold X3_firstOfFew_L10
            rw [tm, if_neg (nI_ge hk (by omega)), dn, bnd_some, if_pos rfl, g1, bnd_some, if_neg (nI_ge (by omega) (by omega)), bb]
          · have := low s hs hb; omega
      · have c' : left.testBit (k / 2) = false := by cases z : left.testBit (k / 2); rfl; exact absurd z c
        rw [c', if_pos (show (!false) = true by decide)] at dn
        rw [if_neg c] at ms
        rw [ms]
        refine ⟨(v4, nI (mnT G (fun to => left.testBit (to / 2)) k), nI (k + 1)), ?_, rfl, rfl, ?_⟩
        · show X3_firstOfFew_L10 rests len (nI m) (nI (2 ^ m - 1 - left)) lat v4 (nI (mnT G (fun to => left.testBit (to / 2)) k)) (nI k) = _
          unfold X3_firstOfFew_L10
          rw [tm, if_neg (nI_ge hk (by omega)), dn, bnd_some, if_neg (by decide), bb]
        · rcases q with q | ⟨f, f1, f2⟩
          · exact Or.inl q
          · exact Or.inr ⟨f, by omega, f2⟩)
    (fun s hs => by
      obtain ⟨v4, v5, i⟩ := s
      obtain ⟨rfl, rfl, q⟩ := hs
      refine ⟨v4, ?_, q⟩
      show X3_firstOfFew_L10 rests len (nI m) (nI (2 ^ m - 1 - left)) lat v4 _ (nI (2 * m)) = _
      unfold X3_firstOfFew_L10
      rw [tm, if_pos (nI_le (Nat.le_refl _) (by omega))]) 0 (-1, 1000000, 0) (Nat.zero_le _) ⟨rfl, rfl, Or.inl ⟨rfl, rfl⟩⟩
  have e : X3_firstOfFew rests len (nI m) (nI (2 ^ m - 1 - left)) lat = some x := by
    unfold X3_firstOfFew
    rw [h1, bnd_some]
  rw [e]
  rcases h2 with ⟨a, rfl⟩ | ⟨f, a, rfl, b⟩
  · exact Or.inl ⟨a, rfl⟩
  · exact Or.inr ⟨f, a, rfl, b⟩
theorem measureRests_ok {len : Ar} {D : Nat → Nat → Nat} {m : Nat} (h : LenOK len D m) (hb : DB D m) (hm : m ≤ 9) (rests : Ar) : ∃ rests', X3_measureRests rests len (nI m) = some rests' ∧ ∀ l, l < 2 ^ m - 1 → TbC rests' D m l := by
  have tm : (2 : Int32) * nI m = nI (2 * m) := pk_mul 2 m
  have l5 := p512 hm
  have p1 : 1 ≤ 2 ^ m := Nat.two_pow_pos m
  have sh : (1 : Int32) <<< (nI m &&& 31) - 1 = nI (2 ^ m - 1) := by rw [nI_shl1 (by omega)]; exact pk_sub (b := 1) p1
  obtain ⟨rests', h1, h2⟩ := whileV_up (body := fun s => X3_measureRests_L8 len (nI m) (nI (2 ^ m - 1)) s.1 s.2) (2 ^ m - 1)
    (fun k s => s.2 = nI (2 ^ m - 1 - k) ∧ ∀ l, l < k → TbC s.1 D m l) (fun r => ∀ l, l < 2 ^ m - 1 → TbC r D m l)
    (fun k s hk hs => by
      obtain ⟨r0, i⟩ := s
      obtain ⟨rfl, q⟩ := hs
      dsimp only at q
      left
      have kl : k < 2 ^ m := by omega
      obtain ⟨r2, g1, g2, g3⟩ := whileV_up (body := fun s => X3_measureRests_L15 len (nI m) (nI (2 ^ m - 1)) (nI (2 ^ m - 1 - k)) s.1 s.2) (2 * m)
        (fun a s => s.2 = nI a ∧ (∀ l, l < k → TbC s.1 D m l) ∧ ∀ b, b < a → k.testBit (b / 2) = false → s.1 (18 * (2 ^ m - 1 - k) + b) = nI (T D m k b))
        (fun r => (∀ l, l < k → TbC r D m l) ∧ TbC r D m k)
        (fun a s ha hs => by
          obtain ⟨r, i⟩ := s
          obtain ⟨rfl, y1, y2⟩ := hs
          dsimp only at y1 y2
          left
          have dn := isDone_ok (d := 2 ^ m - 1 - k) (v := a) (by omega) (by omega)
          rw [dn_bit kl (by omega)] at dn
          have bb : ∀ r : Ar, X3_measureRests_b15_97 r (nI m) (nI (2 ^ m - 1)) (nI (2 ^ m - 1 - k)) (nI a) = some (.inl (r, nI (a + 1))) := fun r => by unfold X3_measureRests_b15_97; rw [nm_eq, nI_1]
          by_cases c : k.testBit (a / 2) = true
          · rw [c, if_neg (show ¬ (!true) = true by decide)] at dn
            refine ⟨(r, nI (a + 1)), ?_, rfl, y1, fun b hb2 hbit => ?_⟩
            · show X3_measureRests_L15 len (nI m) (nI (2 ^ m - 1)) (nI (2 ^ m - 1 - k)) r (nI a) = _
              unfold X3_measureRests_L15
              rw [tm, if_neg (nI_ge ha (by omega)), dn, bnd_some, if_pos rfl, bb]
            · by_cases e : b = a
              · rw [e, c] at hbit; exact absurd hbit (by decide)
              · exact y2 b (by omega) hbit
          · have c' : k.testBit (a / 2) = false := by cases z : k.testBit (a / 2); rfl; exact absurd z c
            rw [c', if_pos (show (!false) = true by decide)] at dn
            have au1 : ∀ x, au r (nI (18 * (2 ^ m - 1 - k) + a)) x = upd r (18 * (2 ^ m - 1 - k) + a) x := fun x => au_nI (by omega)
            have b96 : ∀ x, X3_measureRests_b15_96 r (nI m) (nI (2 ^ m - 1)) (nI (2 ^ m - 1 - k)) (nI a) ((18 * nI (2 ^ m - 1 - k)) + nI a) x = some (.inl (upd r (18 * (2 ^ m - 1 - k) + a) x, nI (a + 1))) := fun x => by
              unfold X3_measureRests_b15_96
              rw [i18, ck_t (ix_nI (show 18 * (2 ^ m - 1 - k) + a < 9216 by omega) (by decide)), nm_eq, au1, bb]
            have val : X3_measureRests_L15 len (nI m) (nI (2 ^ m - 1)) (nI (2 ^ m - 1 - k)) r (nI a) = some (.inl (upd r (18 * (2 ^ m - 1 - k) + a) (nI (T D m k a)), nI (a + 1))) := by
              unfold X3_measureRests_L15
              rw [tm, if_neg (nI_ge ha (by omega)), dn, bnd_some, if_neg (show ¬ (1 : Int32) = 0 by decide)]
              by_cases k0 : k = 0
              · subst k0
                rw [if_pos (show nI (2 ^ m - 1 - 0) = nI (2 ^ m - 1) from rfl)]
                unfold X3_measureRests_b15_50 X3_measureRests_b15_72
                rw [if_pos rfl, if_pos (show nI (2 ^ m - 1 - 0) = nI (2 ^ m - 1) from rfl), b96, T_0]
                rfl
              · have ne : ¬ nI (2 ^ m - 1 - k) = nI (2 ^ m - 1) := nI_ne (by omega) (by omega) (by omega)
                rw [if_neg ne, T_eq D m a k0]
                have hG : ∀ to, to < 2 * m → k.testBit (to / 2) = true → X3_restThrough r len (nI (2 ^ m - 1 - k)) (nI a) (nI to) = some (nI ((fun to => D (tw a) to + T D m (k - 2 ^ (to / 2)) to) to)) ∧ (fun to => D (tw a) to + T D m (k - 2 ^ (to / 2)) to) to < 2 ^ 31 := fun to ht hbit => by
                  refine ⟨restThrough1 h hb hm kl ht ha hbit y1, ?_⟩
                  have := hb _ _ (tw_lt ha) ht
                  have := T_f hb hm (show k - 2 ^ (to / 2) < 512 from Nat.lt_of_le_of_lt (Nat.sub_le _ _) (by omega)) ht
                  dsimp only
                  omega
                rcases firstOfFew_ok hm kl hG with ⟨z1, z2⟩ | ⟨f, f1, z2, f3, f4, f5, f6⟩
                · rw [z1, z2, bnd_some]
                  unfold X3_measureRests_b15_50 X3_measureRests_b15_72
                  rw [if_pos rfl, if_neg ne, b96]
                  rfl
                · rw [z2, bnd_some, ← f4]
                  unfold X3_measureRests_b15_50 X3_measureRests_b15_72
                  rw [if_neg (nI_m1 (by omega)), (hG f f1 f3).1, bnd_some, if_neg ne, b96]
            refine ⟨(upd r (18 * (2 ^ m - 1 - k) + a) (nI (T D m k a)), nI (a + 1)), val, rfl, fun l hl b hb2 hbit => ?_, fun b hb2 hbit => ?_⟩
            · show upd r (18 * (2 ^ m - 1 - k) + a) _ (18 * (2 ^ m - 1 - l) + b) = _
              rw [upd_at, if_neg (by omega)]; exact y1 l hl b hb2 hbit
            · show upd r (18 * (2 ^ m - 1 - k) + a) _ (18 * (2 ^ m - 1 - k) + b) = _
              rw [upd_at]
              by_cases e : b = a
              · rw [if_pos (by rw [e]), e]
              · rw [if_neg (by omega)]; exact y2 b (by omega) hbit)
        (fun s hs => by
          obtain ⟨r, i⟩ := s
          obtain ⟨rfl, y1, y2⟩ := hs
          refine ⟨r, ?_, y1, y2⟩
          show X3_measureRests_L15 len (nI m) (nI (2 ^ m - 1)) (nI (2 ^ m - 1 - k)) r (nI (2 * m)) = _
          unfold X3_measureRests_L15
          rw [tm, if_pos (nI_le (Nat.le_refl _) (by omega))]) 0 (r0, 0) (Nat.zero_le _) ⟨rfl, q, fun b hb => by omega⟩
      refine ⟨(r2, nI (2 ^ m - 1 - (k + 1))), ?_, rfl, fun l hl => ?_⟩
      · show X3_measureRests_L8 len (nI m) (nI (2 ^ m - 1)) r0 (nI (2 ^ m - 1 - k)) = _
        unfold X3_measureRests_L8
        have e : nI (2 ^ m - 1 - k) + (-1) = nI (2 ^ m - 1 - (k + 1)) := by
          rw [show 2 ^ m - 1 - k = 2 ^ m - 1 - (k + 1) + 1 by omega]
          exact pk_m1 _
        rw [if_neg (nI_nle (by omega) (by omega)), g1, bnd_some, nm_eq, e]
      · by_cases e : l = k
        · rw [e]; exact g3
        · exact g2 l (by omega))
    (fun s hs => by
      obtain ⟨rest, i⟩ := s
      obtain ⟨rfl, q⟩ := hs
      refine ⟨rest, ?_, q⟩
      show X3_measureRests_L8 len (nI m) (nI (2 ^ m - 1)) rest (nI (2 ^ m - 1 - (2 ^ m - 1))) = _
      unfold X3_measureRests_L8
      rw [Nat.sub_self, if_pos (by decide)]) 0 (rests, nI (2 ^ m - 1)) (Nat.zero_le _) ⟨rfl, fun l hl => by omega⟩
  refine ⟨rests', ?_, h2⟩
  unfold X3_measureRests
  rw [nm_eq, sh, h1, bnd_some]
