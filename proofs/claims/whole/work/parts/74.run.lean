/-! a run -/
def RS (find plc : Ar) (bk : Int32) (seen wag : Ar) (c : Nat) : Prop := find 0 = seen 0 ∧ find 1 = seen 1 ∧ find 2 = seen 2 ∧ find 3 = bk ∧ find 4 = seen 4 ∧ find 5 = seen 5 ∧ find 6 = seen 6 ∧ find 7 = seen 7 ∧ ∃ w, w ≤ c ∧ find 4 = nI w ∧ ∀ i, i < w → plc i = wag i
theorem mx_le (a b : Int32) : mx a b = if b ≤ a then a else b := by
  unfold mx
  by_cases c : a < b
  · rw [if_pos c, if_neg ((lt_or_le32 _ _).mp c)]
  · rw [if_neg c, if_pos ((not_lt32 _ _).mp c)]
theorem work25 (wt : Int32) (bear crop find plc : Ar) {s : Nat} (hs : s < 1200) : X4_workSquare_b25 wt bear crop find plc (nI s) = some (upd (upd (if wt + (find 3 + crop s) ≤ bear s then upd (upd (upd find 3 (find 3 + crop s)) 2 (find 2 + crop s)) 7 (mx (find 7) (find 3 + crop s)) else upd (upd (upd (upd find 3 (find 3 + crop s)) 2 (find 2 + crop s)) 7 (mx (find 7) (find 3 + crop s))) 6 (find 6 + 1)) 1 (find 1 + 1)) 0 (find 0 + 1), plc) := by
  have ic := ix_nI hs (show 1200 < 2 ^ 31 by decide)
  have a1 : ag crop (nI s) = crop s := ag_nI (by omega)
  have a2 : ag bear (nI s) = bear s := ag_nI (by omega)
  unfold X4_workSquare_b25 X4_workSquare_b109
  simp only [ck_t ic, ck_t (show ix 3 8 = true by decide), ck_t (show ix 2 8 = true by decide), ck_t (show ix 7 8 = true by decide), ck_t (show ix 6 8 = true by decide), ck_t (show ix 1 8 = true by decide), ck_t (show ix 0 8 = true by decide), nm_eq, a1, a2]
  by_cases c : wt + (find 3 + crop s) ≤ bear s
  · rw [if_pos c]
    exact (if_pos (show _ from c)).trans rfl
  · rw [if_neg c]
    exact (if_neg (show _ from c)).trans rfl
theorem works106 (wt bk : Int32) (B seen wag Y : Ar) {s : Nat} (hs : s < 1200) : X10_works_b106 wt bk B seen wag Y (nI s) = some (bk + Y s, upd (upd seen 6 (seen 6 + if wt + (bk + Y s) ≤ B s then 0 else 1)) 7 (mx (seen 7) (bk + Y s)), wag) := by
  have ic := ix_nI hs (show 1200 < 2 ^ 31 by decide)
  have a1 : ag Y (nI s) = Y s := ag_nI (by omega)
  have a2 : ag B (nI s) = B s := ag_nI (by omega)
  unfold X10_works_b106 X10_works_b152 X10_works_b188
  simp only [ck_t ic, ck_t (show ix 7 8 = true by decide), ck_t (show ix 6 8 = true by decide), nm_eq, a1, a2, mx_le]
  by_cases c : wt + (bk + Y s) ≤ B s
  · simp only [if_pos c]
    by_cases d : bk + Y s ≤ seen 7
    · rw [if_pos d]
      exact (if_pos (show _ from d)).trans rfl
    · rw [if_neg d]
      exact (if_neg (show _ from d)).trans rfl
  · simp only [if_neg c]
    by_cases d : bk + Y s ≤ seen 7
    · rw [if_pos d]
      exact (if_pos (show _ from d)).trans rfl
    · rw [if_neg d]
      exact (if_neg (show _ from d)).trans rfl
theorem tail_RS {crop bear Y B F P S W : Ar} {wt bk : Int32} {s c : Nat} (hs : s < 1200) (hY : crop s = Y s) (hB : bear s = B s) (h0 : F 0 + 1 = S 0) (h1 : F 1 + 1 = S 1) (h2 : F 2 + crop s = S 2) (h3 : F 3 = bk) (h4 : F 4 = S 4) (h5 : F 5 = S 5) (h6 : F 6 = S 6) (h7 : F 7 = S 7) (hw : ∃ w, w ≤ c ∧ F 4 = nI w ∧ ∀ i, i < w → P i = W i) :
    ∃ find' plc' bk' seen' wag', X4_workSquare_b25 wt bear crop F P (nI s) = some (find', plc') ∧ X10_works_b106 wt bk B S W Y (nI s) = some (bk', seen', wag') ∧ RS find' plc' bk' seen' wag' c := by
  have e (f : Ar) (k j : Nat) (x : Int32) (h : j ≠ k) : upd f k x j = f j := by rw [upd_at, if_neg h]
  have es (f : Ar) (k : Nat) (x : Int32) : upd f k x k = x := by rw [upd_at, if_pos rfl]
  have key : ∀ (x : Ar), (∀ j, j ≠ 6 → x j = upd (upd (upd F 3 (F 3 + crop s)) 2 (F 2 + crop s)) 7 (mx (F 7) (F 3 + crop s)) j) → x 6 = (F 6 + if wt + (F 3 + crop s) ≤ bear s then 0 else 1) → RS (upd (upd x 1 (F 1 + 1)) 0 (F 0 + 1)) P (bk + Y s) (upd (upd S 6 (S 6 + if wt + (bk + Y s) ≤ B s then 0 else 1)) 7 (mx (S 7) (bk + Y s))) W c := fun x hx h6' => by
    have f4 : upd (upd x 1 (F 1 + 1)) 0 (F 0 + 1) 4 = F 4 := by
      rw [e _ 0 4 _ (by decide), e _ 1 4 _ (by decide), hx 4 (by decide), e _ 7 4 _ (by decide), e _ 2 4 _ (by decide), e _ 3 4 _ (by decide)]
    refine ⟨?_, ?_, ?_, ?_, ?_, ?_, ?_, ?_, ?_⟩
    · rw [es, e _ 7 0 _ (by decide), e _ 6 0 _ (by decide), h0]
    · rw [e _ 0 1 _ (by decide), es, e _ 7 1 _ (by decide), e _ 6 1 _ (by decide), h1]
    · rw [e _ 0 2 _ (by decide), e _ 1 2 _ (by decide), hx 2 (by decide), e _ 7 2 _ (by decide), es, e _ 7 2 _ (by decide), e _ 6 2 _ (by decide), h2]
    · rw [e _ 0 3 _ (by decide), e _ 1 3 _ (by decide), hx 3 (by decide), e _ 7 3 _ (by decide), e _ 2 3 _ (by decide), es, h3, hY]
    · rw [f4, e _ 7 4 _ (by decide), e _ 6 4 _ (by decide), h4]
    · rw [e _ 0 5 _ (by decide), e _ 1 5 _ (by decide), hx 5 (by decide), e _ 7 5 _ (by decide), e _ 2 5 _ (by decide), e _ 3 5 _ (by decide), e _ 7 5 _ (by decide), e _ 6 5 _ (by decide), h5]
    · rw [e _ 0 6 _ (by decide), e _ 1 6 _ (by decide), h6', e _ 7 6 _ (by decide), es, h6, h3, hY, hB]
    · rw [e _ 0 7 _ (by decide), e _ 1 7 _ (by decide), hx 7 (by decide), es, es, h7, h3, hY]
    · rw [f4]; exact hw
  refine ⟨_, _, _, _, _, work25 wt bear crop F P hs, works106 wt bk B S W Y hs, key _ (fun j hj => ?_) ?_⟩
  · by_cases q : wt + (F 3 + crop s) ≤ bear s
    · rw [if_pos q]
    · rw [if_neg q, e _ 6 j _ hj]
  · by_cases q : wt + (F 3 + crop s) ≤ bear s
    · rw [if_pos q, if_pos q, e _ 7 6 _ (by decide), e _ 2 6 _ (by decide), e _ 3 6 _ (by decide), Int32.add_zero]
    · rw [if_neg q, if_neg q, es]
theorem square_ok {crop bear Y B find plc seen wag : Ar} {cap wt un bk : Int32} {s c : Nat} (hs : s < 1200) (hY : crop s = Y s) (hB : bear s = B s) (h : RS find plc bk seen wag c) (hc : c < 1200) :
    ∃ find' plc' bk' seen' wag', X4_workSquare cap wt un bear crop find plc (nI s) = some (find', plc') ∧ X10_works cap wt un bk B seen wag Y (nI s) = some (bk', seen', wag') ∧ RS find' plc' bk' seen' wag' (c + 1) := by
  have ic := ix_nI hs (show 1200 < 2 ^ 31 by decide)
  have a1 : ag crop (nI s) = crop s := ag_nI (by omega)
  have a2 : ag Y (nI s) = Y s := ag_nI (by omega)
  obtain ⟨h0, h1, h2, h3, h4, h5, h6, h7, w, w1, w2, w3⟩ := h
  have e (f : Ar) (k j : Nat) (x : Int32) (h : j ≠ k) : upd f k x j = f j := by rw [upd_at, if_neg h]
  have es (f : Ar) (k : Nat) (x : Int32) : upd f k x k = x := by rw [upd_at, if_pos rfl]
  by_cases c1 : find 3 + crop s ≤ cap
  · have c2 : bk + Y s ≤ cap := by rw [← h3, ← hY]; exact c1
    have E1 : X4_workSquare cap wt un bear crop find plc (nI s) = X4_workSquare_b25 wt bear crop find plc (nI s) := by
      unfold X4_workSquare
      simp only [ck_t (show ix 3 8 = true by decide), ck_t ic, a1]
      exact if_pos (show _ from c1)
    have E2 : X10_works cap wt un bk B seen wag Y (nI s) = X10_works_b106 wt bk B (upd (upd (upd seen 0 (seen 0 + 1)) 1 (seen 1 + 1)) 2 (seen 2 + Y s)) wag Y (nI s) := by
      unfold X10_works
      simp only [ck_t ic, ck_t (show ix 2 8 = true by decide), ck_t (show ix 1 8 = true by decide), ck_t (show ix 0 8 = true by decide), nm_eq, a2]
      exact (if_pos (show _ from c2)).trans rfl
    rw [E1, E2]
    refine tail_RS hs hY hB ?_ ?_ ?_ h3 ?_ ?_ ?_ ?_ ⟨w, by omega, w2, w3⟩
    · rw [e _ 2 0 _ (by decide), e _ 1 0 _ (by decide), es, h0]
    · rw [e _ 2 1 _ (by decide), es, h1]
    · rw [es, h2, hY]
    · rw [e _ 2 4 _ (by decide), e _ 1 4 _ (by decide), e _ 0 4 _ (by decide), h4]
    · rw [e _ 2 5 _ (by decide), e _ 1 5 _ (by decide), e _ 0 5 _ (by decide), h5]
    · rw [e _ 2 6 _ (by decide), e _ 1 6 _ (by decide), e _ 0 6 _ (by decide), h6]
    · rw [e _ 2 7 _ (by decide), e _ 1 7 _ (by decide), e _ 0 7 _ (by decide), h7]
  · have c2 : ¬ bk + Y s ≤ cap := by rw [← h3, ← hY]; exact c1
    have iw := ix_nI (show w < 1200 by omega) (show 1200 < 2 ^ 31 by decide)
    have s4 : seen 4 = nI w := by rw [← h4]; exact w2
    have cw : ¬ (1200 : Int32) ≤ nI w := nI_ge (b := 1200) (a := w) (by omega) (by decide)
    have f4 : ag find 4 = nI w := w2
    have aw1 : au plc (nI w) (nI s) = upd plc w (nI s) := au_nI (by omega)
    have aw2 : au wag (nI w) (nI s) = upd wag w (nI s) := au_nI (by omega)
    have E0 : X4_callWagon un find plc (nI s) = some (upd (upd (upd (upd find 4 (nI w + 1)) 5 (find 5 + find 3)) 3 0) 0 (find 0 + un), upd plc w (nI s)) := by
      unfold X4_callWagon X4_callWagon_b34
      simp only [ck_t (show ix 4 8 = true by decide), f4, if_neg cw, ck_t iw, nm_eq, aw1, ck_t (show ix 5 8 = true by decide), ck_t (show ix 3 8 = true by decide), ck_t (show ix 0 8 = true by decide)]
      rfl
    have E1 : X4_workSquare cap wt un bear crop find plc (nI s) = X4_workSquare_b25 wt bear crop (upd (upd (upd (upd find 4 (nI w + 1)) 5 (find 5 + find 3)) 3 0) 0 (find 0 + un)) (upd plc w (nI s)) (nI s) := by
      unfold X4_workSquare
      simp only [ck_t (show ix 3 8 = true by decide), ck_t ic, a1, E0, bnd_some, un2_mk]
      exact if_neg (show _ from c1)
    have E2 : X10_works cap wt un bk B seen wag Y (nI s) = X10_works_b106 wt 0 B (upd (upd (upd (upd (upd (upd seen 0 (seen 0 + 1)) 1 (seen 1 + 1)) 2 (seen 2 + Y s)) 4 (nI w + 1)) 5 (seen 5 + bk)) 0 (seen 0 + 1 + un)) (upd wag w (nI s)) Y (nI s) := by
      have g4 : ag (upd (upd (upd seen 0 (seen 0 + 1)) 1 (seen 1 + 1)) 2 (seen 2 + Y s)) 4 = nI w := s4
      have E3 : X10_works cap wt un bk B seen wag Y (nI s) = (ck (ix 4 8) <| ck (ix (ag (upd (upd (upd seen 0 (seen 0 + 1)) 1 (seen 1 + 1)) 2 (seen 2 + Y s)) 4) 1200) <| nm (au wag (ag (upd (upd (upd seen 0 (seen 0 + 1)) 1 (seen 1 + 1)) 2 (seen 2 + Y s)) 4) (nI s)) fun c_wagons_64 => ck (ix 4 8) <| ck (ix 4 8) <| nm (au (upd (upd (upd seen 0 (seen 0 + 1)) 1 (seen 1 + 1)) 2 (seen 2 + Y s)) 4 ((ag (upd (upd (upd seen 0 (seen 0 + 1)) 1 (seen 1 + 1)) 2 (seen 2 + Y s)) 4) + 1)) fun c_seen_74 => ck (ix 5 8) <| ck (ix 5 8) <| nm (au c_seen_74 5 ((ag c_seen_74 5) + bk)) fun c_seen_87 => ck (ix 0 8) <| ck (ix 0 8) <| nm (au c_seen_87 0 ((ag c_seen_87 0) + un)) fun c_seen_100 => X10_works_b106 wt 0 B c_seen_100 c_wagons_64 Y (nI s)) := by
        unfold X10_works
        simp only [ck_t ic, ck_t (show ix 2 8 = true by decide), ck_t (show ix 1 8 = true by decide), ck_t (show ix 0 8 = true by decide), nm_eq, a2]
        exact (if_neg (show _ from c2)).trans rfl
      rw [E3, g4]
      simp only [ck_t (show ix 4 8 = true by decide), ck_t iw, ck_t (show ix 5 8 = true by decide), ck_t (show ix 0 8 = true by decide), nm_eq, aw2]
      rfl
    rw [E1, E2]
    refine tail_RS hs hY hB ?_ ?_ ?_ ?_ ?_ ?_ ?_ ?_ ⟨w + 1, by omega, ?_, fun i hi => ?_⟩
    · rw [es, es, h0, Int32.add_assoc, Int32.add_assoc, Int32.add_comm un 1]
    · rw [e _ 0 1 _ (by decide), e _ 3 1 _ (by decide), e _ 5 1 _ (by decide), e _ 4 1 _ (by decide), e _ 0 1 _ (by decide), e _ 5 1 _ (by decide), e _ 4 1 _ (by decide), e _ 2 1 _ (by decide), es, h1]
    · rw [e _ 0 2 _ (by decide), e _ 3 2 _ (by decide), e _ 5 2 _ (by decide), e _ 4 2 _ (by decide), e _ 0 2 _ (by decide), e _ 5 2 _ (by decide), e _ 4 2 _ (by decide), es, h2, hY]
    · rw [e _ 0 3 _ (by decide), es]
    · rw [e _ 0 4 _ (by decide), e _ 3 4 _ (by decide), e _ 5 4 _ (by decide), es, e _ 0 4 _ (by decide), e _ 5 4 _ (by decide), es]
    · rw [e _ 0 5 _ (by decide), e _ 3 5 _ (by decide), es, e _ 0 5 _ (by decide), es, h5, h3]
    · rw [e _ 0 6 _ (by decide), e _ 3 6 _ (by decide), e _ 5 6 _ (by decide), e _ 4 6 _ (by decide), e _ 0 6 _ (by decide), e _ 5 6 _ (by decide), e _ 4 6 _ (by decide), e _ 2 6 _ (by decide), e _ 1 6 _ (by decide), e _ 0 6 _ (by decide), h6]
    · rw [e _ 0 7 _ (by decide), e _ 3 7 _ (by decide), e _ 5 7 _ (by decide), e _ 4 7 _ (by decide), e _ 0 7 _ (by decide), e _ 5 7 _ (by decide), e _ 4 7 _ (by decide), e _ 2 7 _ (by decide), e _ 1 7 _ (by decide), e _ 0 7 _ (by decide), h7]
    · rw [e _ 0 4 _ (by decide), e _ 3 4 _ (by decide), e _ 5 4 _ (by decide), es, nI_1]
    · rw [upd_at, upd_at]
      by_cases q : i = w
      · rw [if_pos q, if_pos q]
      · rw [if_neg q, if_neg q]; exact w3 i (by omega)
