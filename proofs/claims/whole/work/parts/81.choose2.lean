/-! the call choose -/
theorem try_same {kd nr wh A B : Ar} {N k w' : Nat} {ic w : Int32} (hnr : NearOK kd nr) (hk : ∀ s, s < 1200 → kd s = wh s) (hN : N = cnt (fun s => decide (kd s = 2)) 1200) (hic : ic = nI N) (hw : w = nI w') (hw0 : 1 ≤ w') (hw1 : w' ≤ 400) (hk5 : k < 5) (hab : slOK (A k) (B k)) (hs : Succ9 ic w kd nr A B k)
    (p1 p2 r1 r2 ss sl : Int32) (pn re al en nu so sp sq sta st ta kn len wl sla str : Ar) (h1 h2 rw src : Int32) (alr enr far iu iw pil pl rest ro rs srr tu wa : Ar) :
    ∃ (m s : Nat) (ss' sl' : Int32) (pn' re' al' en' nu' so' sp' sq' sta' st' ta' kn' len' wl' sla' str' : Ar) (src' : Int32) (alr' enr' far' iu' iw' pil' pl' rest' ro' rs' srr' tu' wa' : Ar), X9_tryOut ic p1 p2 r1 r2 ss sl kd nr pn re al en nu so sp sq sta st ta A B kn len wl sla str (nI k) w = some (nI s, 1, nI m, 1, nI m, ss', sl', pn', re', al', en', nu', so', sp', sq', sta', st', ta', kn', len', wl', sla', str') ∧ X10_makes h1 h2 rw src alr enr far iw pil ro rs srr tu wa wh (A k) (B k) w = some (1, 1, 0, nI m, src', alr', enr', far', iw', pil', ro', rs', srr', tu', wa') ∧ X10_bestOf 0 (nI m) iu pl rest tu' = some (nI s, 1, iu', pl', rest') ∧ s < 1000000 ∧ IRows 1 kd nu' en' sq' sta' st' kn' len' pn' 1 (nI m) 1 (nI m) ro' enr' rs' srr' alr' tu' pl' 1 1 (nI m) := by
  rcases try_pair hnr hk hN hic hw hw0 hw1 hk5 hab p1 p2 r1 r2 ss sl pn re al en nu so sp sq sta st ta kn len wl sla str h1 h2 rw src alr enr far iu iw pil pl rest ro rs srr tu wa with t | ⟨p15, p25, r15, r25, ss5, sl5, pn5, re5, al5, en5, nu5, so5, sp5, sq5, sta5, st5, ta5, kn5, len5, wl5, sla5, str5, _, tf⟩
  · exact t
  · exfalso
    obtain ⟨⟨p13, p23, r13, r23, ss3, sl3, pn3, re3, al3, en3, nu3, so3, sp3, sq3, sta3, st3, ta3, kn3, len3, wl3, sla3, str3⟩, s, c', s1, s2⟩ := hs
    rcases try_pair hnr hk hN hic hw hw0 hw1 hk5 hab p13 p23 r13 r23 ss3 sl3 pn3 re3 al3 en3 nu3 so3 sp3 sq3 sta3 st3 ta3 kn3 len3 wl3 sla3 str3 h1 h2 rw src alr enr far iu iw pil pl rest ro rs srr tu wa with ⟨m, s', ss', sl', pn', re', al', en', nu', so', sp', sq', sta', st', ta', kn', len', wl', sla', str', src', alr', enr', far', iu', iw', pil', pl', rest', ro', rs', srr', tu', wa', t1, t2, t3, t4, t5⟩ | ⟨p1', p2', r1', r2', ss', sl', pn', re', al', en', nu', so', sp', sq', sta', st', ta', kn', len', wl', sla', str', t1, _⟩
    · rcases tf with ⟨rw5, src5, alr5, enr5, far5, iw5, pil5, ro5, rs5, srr5, tu5, wa5, y2⟩ | ⟨m5, src5, alr5, enr5, far5, iu5, iw5, pil5, pl5, rest5, ro5, rs5, srr5, tu5, wa5, y2, y3⟩
      · rw [t2] at y2
        simp only [Option.some.injEq, Prod.mk.injEq] at y2
        exact absurd y2.1 n10
      · rw [t2] at y2
        simp only [Option.some.injEq, Prod.mk.injEq] at y2
        obtain ⟨_, _, _, e1, _, _, _, _, _, _, _, _, _, e2, _⟩ := y2
        rw [← e1, ← e2, t3] at y3
        simp only [Option.some.injEq, Prod.mk.injEq] at y3
        exact nI_m1 (by omega) y3.1
    · have s2' : X9_tryOut ic p13 p23 r13 r23 ss3 sl3 kd nr pn3 re3 al3 en3 nu3 so3 sp3 sq3 sta3 st3 ta3 A B kn3 len3 wl3 sla3 str3 (nI k) w = some (nI s, c') := s2
      rw [t1] at s2'
      have := congrArg Prod.fst (Option.some.inj s2')
      exact nI_m1 (show s < 2 ^ 31 by omega) this.symm
section OPS5
variable {fa : Nat → Ar} {fi : Nat → Int32} {ga : Nat → Ar} {gi : Nat → Int32}
theorem o_choose (h : Inv9 fa fi ga gi) (x1 : Int32) : St_choose Inv9 fa fi ga gi x1 := by
  have h' := h
  obtain ⟨hr, hl, hs, hp, hw⟩ := h
  have hl' := hl
  rcases hl with ⟨l1, l2, _⟩ | ⟨l1, l2, lo⟩
  · unfold St_choose X9_choose X9_needLaid X10_choose X10_choose_b18
    rw [l1, l2, if_pos rfl, if_pos rfl, thr1]
    exact Or.inr (Or.inl ⟨rfl, 0, 1, gi 3, gi 4, gi 5, gi 10, ga 6, ga 8, ga 18, ga 22, ga 20, ga 17, ga 10, ga 21, ga 4, ga 7, ga 5, ga 9, ga 19, rfl, rfl, h'⟩)
  · have i1 : X9_needLaid 1 = some (.inr ()) := by unfold X9_needLaid; rw [if_neg n10]; rfl
    rcases width_ok x1 with ⟨w', w0, w1, rfl, v1, v2⟩ | ⟨v1, v2⟩
    · obtain ⟨es, n, n5, enn, ab9⟩ := hs
      have eg : gi 6 = nI n := by rw [← es]; exact enn
      have hs' : ISlant (fi 14) (fa 27) (fa 28) (gi 6) (ga 11) (ga 12) := ⟨es, n, n5, enn, ab9⟩
      have hk9 := fun s hs => (lo.2.1 s hs).1
      obtain ⟨p1, p2, r1, r2, ss, sl, pn, re, al, en, nu, so, sp, sq, sta, st, ta, kn, len, wl, sla, str, h1, h2, rw, src, alr, enr, far, iu, iw, pil, pl, rest, ro, rs, srr, tu, wa, f, z1, z2, z3⟩ := choose_sim lo.2.2.1 hk9 rfl lo.2.2.2.2 rfl w0 w1 n5 ab9 n 0 (fi 12) (fi 13) (fi 10) (fi 11) (fi 8) (fi 9) (fa 25) (fa 26) (fa 15) (fa 22) (fa 16) (fa 17) (fa 18) (fa 20) (fa 21) (fa 14) (fa 19) (fa 24) (fa 23) (fa 11) (fa 13) (fa 12) (gi 3) (gi 4) (gi 5) (gi 10) (ga 6) (ga 8) (ga 18) (ga 22) (ga 20) (ga 17) (ga 10) (ga 21) (ga 4) (ga 7) (ga 5) (ga 9) (ga 19) (-1) 0 0 (by omega) (Or.inl rfl)
      have z1' : whileV (fun t => X9_choose_L16 (fi 7) (nI n) (fa 8) (fa 9) (fa 27) (fa 28) (nI w') t.1 t.2.1 t.2.2.1 t.2.2.2.1 t.2.2.2.2.1 t.2.2.2.2.2.1 t.2.2.2.2.2.2.1 t.2.2.2.2.2.2.2.1 t.2.2.2.2.2.2.2.2.1 t.2.2.2.2.2.2.2.2.2.1 t.2.2.2.2.2.2.2.2.2.2.1 t.2.2.2.2.2.2.2.2.2.2.2.1 t.2.2.2.2.2.2.2.2.2.2.2.2.1 t.2.2.2.2.2.2.2.2.2.2.2.2.2.1 t.2.2.2.2.2.2.2.2.2.2.2.2.2.2.1 t.2.2.2.2.2.2.2.2.2.2.2.2.2.2.2.1 t.2.2.2.2.2.2.2.2.2.2.2.2.2.2.2.2.1 t.2.2.2.2.2.2.2.2.2.2.2.2.2.2.2.2.2.1 t.2.2.2.2.2.2.2.2.2.2.2.2.2.2.2.2.2.2.1 t.2.2.2.2.2.2.2.2.2.2.2.2.2.2.2.2.2.2.2.1 t.2.2.2.2.2.2.2.2.2.2.2.2.2.2.2.2.2.2.2.2.1 t.2.2.2.2.2.2.2.2.2.2.2.2.2.2.2.2.2.2.2.2.2.1 t.2.2.2.2.2.2.2.2.2.2.2.2.2.2.2.2.2.2.2.2.2.2.1 t.2.2.2.2.2.2.2.2.2.2.2.2.2.2.2.2.2.2.2.2.2.2.2.1 t.2.2.2.2.2.2.2.2.2.2.2.2.2.2.2.2.2.2.2.2.2.2.2.2) (fi 12, fi 13, fi 10, fi 11, fi 8, fi 9, fa 25, fa 26, fa 15, fa 22, fa 16, fa 17, fa 18, fa 20, fa 21, fa 14, fa 19, fa 24, fa 23, fa 11, fa 13, fa 12, -1, 0, 0) = some (p1, p2, r1, r2, ss, sl, pn, re, al, en, nu, so, sp, sq, sta, st, ta, kn, len, wl, sla, str, f) := z1
      have z2' : whileV (fun t => X10_choose_L54 (nI n) (ga 11) (ga 12) (ga 3) (nI w') t.1 t.2.1 t.2.2.1 t.2.2.2.1 t.2.2.2.2.1 t.2.2.2.2.2.1 t.2.2.2.2.2.2.1 t.2.2.2.2.2.2.2.1 t.2.2.2.2.2.2.2.2.1 t.2.2.2.2.2.2.2.2.2.1 t.2.2.2.2.2.2.2.2.2.2.1 t.2.2.2.2.2.2.2.2.2.2.2.1 t.2.2.2.2.2.2.2.2.2.2.2.2.1 t.2.2.2.2.2.2.2.2.2.2.2.2.2.1 t.2.2.2.2.2.2.2.2.2.2.2.2.2.2.1 t.2.2.2.2.2.2.2.2.2.2.2.2.2.2.2.1 t.2.2.2.2.2.2.2.2.2.2.2.2.2.2.2.2.1 t.2.2.2.2.2.2.2.2.2.2.2.2.2.2.2.2.2.1 t.2.2.2.2.2.2.2.2.2.2.2.2.2.2.2.2.2.2.1 t.2.2.2.2.2.2.2.2.2.2.2.2.2.2.2.2.2.2.2) (gi 3, gi 4, gi 5, gi 10, ga 6, ga 8, ga 18, ga 22, ga 20, ga 17, ga 10, ga 21, ga 4, ga 7, ga 5, ga 9, ga 19, -1, 0, 0) = some (h1, h2, rw, src, alr, enr, far, iu, iw, pil, pl, rest, ro, rs, srr, tu, wa, f) := z2
      rcases z3 with rfl | ⟨j, j1, rfl, sj, gj⟩
      · obtain ⟨kn9, f1, f2⟩ := forgetRows_ok p1 p2 r1 r2 kn
        refine Or.inl ⟨-1, 0, 0, 0, 0, ss, sl, pn, re, al, en, nu, so, sp, sq, sta, st, ta, kn9, len, wl, sla, str, ?_, -1, 0, 0, 0, rw, src, alr, enr, far, iu, iw, pil, pl, rest, ro, rs, srr, tu, wa, ?_, rfl, rfl, hr, hl', hs', hp, Or.inl ⟨rfl, rfl, rfl, rfl, rfl, rfl⟩⟩
        · rw [l1, enn]
          unfold X9_choose
          simp only [i1, bnd_some, Sum.elim_inr, v1, z1', un23_mk, if_true, f1, un5_mk, rmap_some]
        · rw [l2, eg]
          unfold X10_choose X10_choose_b18 X10_choose_b38
          simp only [if_neg n10, thr0, bnd_some, un2_mk, if_true, v2, z2', un18_mk, if_pos (show (-1 : Int32) < 0 by decide)]
      · have ij := ix_nI (show j < 5 by omega) (show 5 < 2 ^ 31 by decide)
        have gA : ag (ga 11) (nI j) = fa 27 j := by rw [ag_nI (by omega), (ab9 j j1).1]
        have gB : ag (ga 12) (nI j) = fa 28 j := by rw [ag_nI (by omega), (ab9 j j1).2.1]
        have nj : ¬ nI j = -1 := nI_m1 (by omega)
        have nj0 : ¬ nI j < 0 := nI_nlt (Nat.zero_le _) (by omega)
        have nn : nI n - 1 = nI (n - 1) := pk_sub (b := 1) (by omega)
        by_cases lst : j + 1 = n
        · obtain ⟨⟨p13, p23, r13, r23, ss3, sl3, pn3, re3, al3, en3, nu3, so3, sp3, sq3, sta3, st3, ta3, kn3, len3, wl3, sla3, str3⟩, s0, s1, s2⟩ := gj lst
          obtain ⟨m, s, ss', sl', pn', re', al', en', nu', so', sp', sq', sta', st', ta', kn', len', wl', sla', str', src', alr', enr', far', iu', iw', pil', pl', rest', ro', rs', srr', tu', wa', t1, t2, t3, t4, t5⟩ := try_same lo.2.2.1 hk9 rfl lo.2.2.2.2 rfl w0 w1 (show j < 5 by omega) (ab9 j j1).2.2 sj p13 p23 r13 r23 ss3 sl3 pn3 re3 al3 en3 nu3 so3 sp3 sq3 sta3 st3 ta3 kn3 len3 wl3 sla3 str3 0 0 rw src alr enr far iu iw pil pl rest ro rs srr tu wa
          have s2' : X9_tryOut (fi 7) p13 p23 r13 r23 ss3 sl3 (fa 8) (fa 9) pn3 re3 al3 en3 nu3 so3 sp3 sq3 sta3 st3 ta3 (fa 27) (fa 28) kn3 len3 wl3 sla3 str3 (nI j) (nI w') = some (nI s0, (p1, p2, r1, r2, ss, sl, pn, re, al, en, nu, so, sp, sq, sta, st, ta, kn, len, wl, sla, str)) := s2
          rw [t1] at s2'
          simp only [Option.some.injEq, Prod.mk.injEq] at s2'
          obtain ⟨_, rfl, rfl, rfl, rfl, rfl, rfl, rfl, rfl, rfl, rfl, rfl, rfl, rfl, rfl, rfl, rfl, rfl, rfl, rfl, rfl, rfl, rfl⟩ := s2'
          refine Or.inl ⟨nI j, 1, nI m, 1, nI m, ss', sl', pn', re', al', en', nu', so', sp', sq', sta', st', ta', kn', len', wl', sla', str', ?_, nI j, 0, 1, 1, nI m, src', alr', enr', far', iu', iw', pil', pl', rest', ro', rs', srr', tu', wa', ?_, rfl, rfl, hr, hl', hs', hp, l1 ▸ t5⟩
          · rw [l1, enn]
            unfold X9_choose
            simp only [i1, bnd_some, Sum.elim_inr, v1, z1', un23_mk, if_neg nj, nn, if_pos (show nI j = nI (n - 1) from congrArg nI (by omega)), rmap_some]
          · rw [l2, eg]
            unfold X10_choose X10_choose_b18 X10_choose_b38
            simp only [if_neg n10, thr0, bnd_some, un2_mk, if_true, v2, z2', un18_mk, if_neg nj0, ck_t ij, gA, gB, t2, un15_mk, t3, un5_mk]
        · obtain ⟨m, s, ss', sl', pn', re', al', en', nu', so', sp', sq', sta', st', ta', kn', len', wl', sla', str', src', alr', enr', far', iu', iw', pil', pl', rest', ro', rs', srr', tu', wa', t1, t2, t3, t4, t5⟩ := try_same lo.2.2.1 hk9 rfl lo.2.2.2.2 rfl w0 w1 (show j < 5 by omega) (ab9 j j1).2.2 sj p1 p2 r1 r2 ss sl pn re al en nu so sp sq sta st ta kn len wl sla str 0 0 rw src alr enr far iu iw pil pl rest ro rs srr tu wa
          refine Or.inl ⟨nI j, 1, nI m, 1, nI m, ss', sl', pn', re', al', en', nu', so', sp', sq', sta', st', ta', kn', len', wl', sla', str', ?_, nI j, 0, 1, 1, nI m, src', alr', enr', far', iu', iw', pil', pl', rest', ro', rs', srr', tu', wa', ?_, rfl, rfl, hr, hl', hs', hp, l1 ▸ t5⟩
          · rw [l1, enn]
            unfold X9_choose
            simp only [i1, bnd_some, Sum.elim_inr, v1, z1', un23_mk, if_neg nj, nn, if_neg (show ¬ nI j = nI (n - 1) from nI_ne (by omega) (by omega) (by omega)), t1, rmap_some]
          · rw [l2, eg]
            unfold X10_choose X10_choose_b18 X10_choose_b38
            simp only [if_neg n10, thr0, bnd_some, un2_mk, if_true, v2, z2', un18_mk, if_neg nj0, ck_t ij, gA, gB, t2, un15_mk, t3, un5_mk]
    · refine Or.inr (Or.inr ⟨?_, 0, 2, gi 3, gi 4, gi 5, gi 10, ga 6, ga 8, ga 18, ga 22, ga 20, ga 17, ga 10, ga 21, ga 4, ga 7, ga 5, ga 9, ga 19, ?_, rfl, h'⟩)
      · rw [l1]
        unfold X9_choose
        simp only [i1, bnd_some, Sum.elim_inr, v1, Sum.elim_inl]
      · rw [l2]
        unfold X10_choose X10_choose_b18 X10_choose_b38
        simp only [if_neg n10, thr0, thr1, bnd_some, un2_mk, if_true, v2]
end OPS5
