/-! What the programs are made of, as functions that may fail: 'none' is an index outside its row, a divisor 0, a loop without an end. -/
def ix (i : Int32) (n : Nat) : Bool := decide (¬ (i < 0 ∨ n ≤ i.toNatClampNeg))
def nz (y : Int32) : Bool := decide (¬ y = 0)
def bl (v : Int32) : Bool := decide (v = 0) || decide (v = 1)
def ck {α : Type} (b : Bool) (k : Option α) : Option α := if b = true then k else none
def nm {α β : Type} (e : α) (k : α → Option β) : Option β := k e
def bnd {α β : Type} (x : Option α) (k : α → Option β) : Option β := match x with
  | none => none
  | some a => k a
abbrev un2 {α β δ : Type} (k : α → β → δ) (t : α × β) : δ := k t.1 t.2
abbrev un3 {α β γ δ : Type} (k : α → β → γ → δ) (t : α × β × γ) : δ := k t.1 t.2.1 t.2.2
abbrev un4 {α β γ ε δ : Type} (k : α → β → γ → ε → δ) (t : α × β × γ × ε) : δ := k t.1 t.2.1 t.2.2.1 t.2.2.2
abbrev un5 {α β γ ε ζ δ : Type} (k : α → β → γ → ε → ζ → δ) (t : α × β × γ × ε × ζ) : δ := k t.1 t.2.1 t.2.2.1 t.2.2.2.1 t.2.2.2.2
abbrev un6 {α β γ ε ζ η δ : Type} (k : α → β → γ → ε → ζ → η → δ) (t : α × β × γ × ε × ζ × η) : δ := k t.1 t.2.1 t.2.2.1 t.2.2.2.1 t.2.2.2.2.1 t.2.2.2.2.2
abbrev un7 {α β γ ε ζ η θ δ : Type} (k : α → β → γ → ε → ζ → η → θ → δ) (t : α × β × γ × ε × ζ × η × θ) : δ := k t.1 t.2.1 t.2.2.1 t.2.2.2.1 t.2.2.2.2.1 t.2.2.2.2.2.1 t.2.2.2.2.2.2
abbrev un8 {α β γ ε ζ η θ ι δ : Type} (k : α → β → γ → ε → ζ → η → θ → ι → δ) (t : α × β × γ × ε × ζ × η × θ × ι) : δ := k t.1 t.2.1 t.2.2.1 t.2.2.2.1 t.2.2.2.2.1 t.2.2.2.2.2.1 t.2.2.2.2.2.2.1 t.2.2.2.2.2.2.2
abbrev un9 {α β γ ε ζ η θ ι κ δ : Type} (k : α → β → γ → ε → ζ → η → θ → ι → κ → δ) (t : α × β × γ × ε × ζ × η × θ × ι × κ) : δ := k t.1 t.2.1 t.2.2.1 t.2.2.2.1 t.2.2.2.2.1 t.2.2.2.2.2.1 t.2.2.2.2.2.2.1 t.2.2.2.2.2.2.2.1 t.2.2.2.2.2.2.2.2
abbrev un10 {α β γ ε ζ η θ ι κ μ δ : Type} (k : α → β → γ → ε → ζ → η → θ → ι → κ → μ → δ) (t : α × β × γ × ε × ζ × η × θ × ι × κ × μ) : δ := un9 (fun a b c d e f g h r => k a b c d e f g h r.1 r.2) t
abbrev un11 {α β γ ε ζ η θ ι κ μ ν δ : Type} (k : α → β → γ → ε → ζ → η → θ → ι → κ → μ → ν → δ) (t : α × β × γ × ε × ζ × η × θ × ι × κ × μ × ν) : δ := un9 (fun a b c d e f g h r => k a b c d e f g h r.1 r.2.1 r.2.2) t
abbrev un12 {α β γ ε ζ η θ ι κ μ ν ξ δ : Type} (k : α → β → γ → ε → ζ → η → θ → ι → κ → μ → ν → ξ → δ) (t : α × β × γ × ε × ζ × η × θ × ι × κ × μ × ν × ξ) : δ := un9 (fun a b c d e f g h r => k a b c d e f g h r.1 r.2.1 r.2.2.1 r.2.2.2) t
def iterV {σ ρ : Type} (body : σ → Option (σ ⊕ ρ)) : Nat → σ → Option ρ
  | 0, _ => none
  | k + 1, s => match body s with
    | none => none
    | some (.inl s') => iterV body k s'
    | some (.inr r) => some r
noncomputable def whileV {σ ρ : Type} (body : σ → Option (σ ⊕ ρ)) (s : σ) : Option ρ :=
  @dite _ (∃ r k, iterV body k s = some r) (Classical.propDecidable _) (fun h => some h.choose) (fun _ => none)
theorem iterV_up {σ ρ : Type} {body : σ → Option (σ ⊕ ρ)} : ∀ (k : Nat) (s : σ) (r : ρ) (j : Nat), iterV body k s = some r → iterV body (k + j) s = some r := by
  intro k
  induction k with
  | zero => intro s r j h; cases h
  | succ k ih =>
    intro s r j h
    have e : k + 1 + j = (k + j) + 1 := by omega
    rw [e]
    unfold iterV at h ⊢
    cases hb : body s with
    | none => rw [hb] at h; cases h
    | some o =>
      rw [hb] at h
      cases o with
      | inl s' => exact ih s' r j h
      | inr r' => exact h
theorem iterV_one {σ ρ : Type} {body : σ → Option (σ ⊕ ρ)} {k j : Nat} {s : σ} {r r' : ρ} (h : iterV body k s = some r) (h' : iterV body j s = some r') : r = r' := by
  have a := iterV_up k s r j h
  have b := iterV_up j s r' k h'
  rw [Nat.add_comm] at b
  exact Option.some.inj (a.symm.trans b)
theorem whileV_iff {σ ρ : Type} {body : σ → Option (σ ⊕ ρ)} {s : σ} {r : ρ} : whileV body s = some r ↔ ∃ k, iterV body k s = some r := by
  unfold whileV
  constructor
  · intro h
    split at h
    · rename_i hx
      rw [Option.some.injEq] at h
      rw [← h]
      exact hx.choose_spec
    · cases h
  · rintro ⟨k, hk⟩
    have hx : ∃ r k, iterV body k s = some r := ⟨r, k, hk⟩
    rw [dif_pos hx]
    obtain ⟨k', hk'⟩ := hx.choose_spec
    exact congrArg some (iterV_one hk' hk)
/-- a loop, by an invariant and a measure that falls -/
theorem whileV_of {σ ρ : Type} {body : σ → Option (σ ⊕ ρ)} (I : σ → Prop) (P : ρ → Prop) (μ : σ → Nat)
    (hs : ∀ s, I s → (∃ s', body s = some (.inl s') ∧ I s' ∧ μ s' < μ s) ∨ ∃ r, body s = some (.inr r) ∧ P r) : ∀ s, I s → ∃ r, whileV body s = some r ∧ P r := by
  have key : ∀ (k : Nat) (s : σ), μ s < k → I s → ∃ r, iterV body k s = some r ∧ P r := by
    intro k
    induction k with
    | zero => intro s h; omega
    | succ k ih =>
      intro s hk hI
      unfold iterV
      rcases hs s hI with ⟨s', h1, h2, h3⟩ | ⟨r, h1, h2⟩
      · rw [h1]
        exact ih s' (by omega) h2
      · rw [h1]
        exact ⟨r, rfl, h2⟩
  intro s hI
  obtain ⟨r, h1, h2⟩ := key (μ s + 1) s (by omega) hI
  exact ⟨r, whileV_iff.mpr ⟨_, h1⟩, h2⟩
theorem whileV_eq {σ ρ : Type} (body : σ → Option (σ ⊕ ρ)) (s : σ) : whileV body s = match body s with
    | none => none
    | some (.inl s') => whileV body s'
    | some (.inr r) => some r := by
  cases hb : body s with
  | none =>
    cases hw : whileV body s with
    | none => rfl
    | some r =>
      obtain ⟨k, hk⟩ := whileV_iff.mp hw
      cases k with
      | zero => cases hk
      | succ k => unfold iterV at hk; rw [hb] at hk; cases hk
  | some o =>
    cases o with
    | inr r => exact whileV_iff.mpr ⟨1, by unfold iterV; rw [hb]⟩
    | inl s' =>
      show whileV body s = whileV body s'
      cases hw : whileV body s' with
      | some r =>
        obtain ⟨k, hk⟩ := whileV_iff.mp hw
        exact whileV_iff.mpr ⟨k + 1, by unfold iterV; rw [hb]; exact hk⟩
      | none =>
        cases hw2 : whileV body s with
        | none => rfl
        | some r =>
          obtain ⟨k, hk⟩ := whileV_iff.mp hw2
          cases k with
          | zero => cases hk
          | succ k =>
            unfold iterV at hk
            rw [hb] at hk
            rw [whileV_iff.mpr ⟨k, hk⟩] at hw
            cases hw
theorem loopW {σ ρ : Type} {body : σ → Option (σ ⊕ ρ)} (WH : σ → Prop) (WX : ρ → Prop) (hs : ∀ st o, body st = some o → Sum.elim WH WX o → WH st) {st : σ} {r : ρ} (h : whileV body st = some r) (hx : WX r) : WH st := by
  obtain ⟨k, hk⟩ := whileV_iff.mp h
  clear h
  induction k generalizing st with
  | zero => cases hk
  | succ k ih =>
    unfold iterV at hk
    cases hb : body st with
    | none => rw [hb] at hk; cases hk
    | some o =>
      rw [hb] at hk
      cases o with
      | inl s' => exact hs st _ hb (ih hk)
      | inr r' =>
        have e : r' = r := Option.some.inj hk
        subst e
        exact hs st _ hb hx
abbrev ag (f : Ar) (i : Int32) : Int32 := f i.toNatClampNeg
abbrev au (f : Ar) (i x : Int32) : Ar := upd f i.toNatClampNeg x
abbrev mx (x y : Int32) : Int32 := if x < y then y else x
abbrev mn (x y : Int32) : Int32 := if y < x then y else x
abbrev ab (x : Int32) : Int32 := if 0 ≤ x then x else 0 - x
theorem ne_toInt {x k : Int32} (h : ¬ x = k) {a : Int} (hk : k.toInt = a) : x.toInt ≠ a := fun q => h (Int32.toInt_inj.mp (q.trans hk.symm))
theorem ck_ex {α : Type} {b : Bool} {k : Option α} {o : α} (h : ck b k = some o) : b = true ∧ k = some o := by
  unfold ck at h
  split at h
  · exact ⟨by assumption, h⟩
  · cases h
def rmap {α : Type} (x : Option α) : Option (Nat ⊕ α) := match x with
  | none => none
  | some a => some (.inr a)
theorem rmap_ex {α : Type} {x : Option α} {a : α} (h : rmap x = some (.inr a)) : x = some a := by
  cases x with
  | none => cases h
  | some b => exact congrArg some (Sum.inr.inj (Option.some.inj h))
theorem rmap_no {α : Type} {x : Option α} {k : Nat} (h : rmap x = some (.inl k)) : False := by
  cases x with
  | none => cases h
  | some b => cases (Option.some.inj h)
theorem nm_ex {α β : Type} {e : α} {k : α → Option β} {o : β} (h : nm e k = some o) : ∃ x, x = e ∧ k x = some o := ⟨e, rfl, h⟩
theorem bnd_ex {α β : Type} {x : Option α} {k : α → Option β} {o : β} (h : bnd x k = some o) : ∃ a, x = some a ∧ k a = some o := by
  cases x with
  | none => cases h
  | some a => exact ⟨a, rfl, h⟩
theorem it_t {α : Type} {c : Prop} [Decidable c] {a b : Option α} {o : α} (hc : c) (h : (if c then a else b) = some o) : a = some o := by rw [if_pos hc] at h; exact h
theorem it_f {α : Type} {c : Prop} [Decidable c] {a b : Option α} {o : α} (hc : ¬ c) (h : (if c then a else b) = some o) : b = some o := by rw [if_neg hc] at h; exact h
theorem ix_in {i : Int32} {n : Nat} (h : ix i n = true) : vp_in i n := by
  have h1 : ¬ (i < 0 ∨ n ≤ i.toNatClampNeg) := of_decide_eq_true h
  exact h1
theorem nz_ne {y : Int32} (h : nz y = true) : ¬ y = 0 := of_decide_eq_true h
theorem bl_nar {v : Int32} (h : bl v = true) : narrow .boolean (.int v) = .int v := by
  unfold bl at h
  rcases (Bool.or_eq_true _ _).mp h with h | h
  · rw [of_decide_eq_true h]; rfl
  · rw [of_decide_eq_true h]; rfl
theorem bl_fit {v : Int32} (h : bl v = true) : fits .boolean (.int v) = true := by
  unfold bl at h
  rcases (Bool.or_eq_true _ _).mp h with h | h
  · rw [of_decide_eq_true h]; rfl
  · rw [of_decide_eq_true h]; rfl
theorem un3_at {α β γ δ : Type} {k : α → β → γ → δ} {x0 : α} {x1 : β} {x2 : γ} {o : δ} (h : un3 k (x0, x1, x2) = o) : k x0 x1 x2 = o := h
theorem un4_at {α β γ ε δ : Type} {k : α → β → γ → ε → δ} {x0 : α} {x1 : β} {x2 : γ} {x3 : ε} {o : δ} (h : un4 k (x0, x1, x2, x3) = o) : k x0 x1 x2 x3 = o := h
theorem un5_at {α β γ ε ζ δ : Type} {k : α → β → γ → ε → ζ → δ} {x0 : α} {x1 : β} {x2 : γ} {x3 : ε} {x4 : ζ} {o : δ} (h : un5 k (x0, x1, x2, x3, x4) = o) : k x0 x1 x2 x3 x4 = o := h
theorem un6_at {α β γ ε ζ η δ : Type} {k : α → β → γ → ε → ζ → η → δ} {x0 : α} {x1 : β} {x2 : γ} {x3 : ε} {x4 : ζ} {x5 : η} {o : δ} (h : un6 k (x0, x1, x2, x3, x4, x5) = o) : k x0 x1 x2 x3 x4 x5 = o := h
theorem un7_at {α β γ ε ζ η θ δ : Type} {k : α → β → γ → ε → ζ → η → θ → δ} {x0 : α} {x1 : β} {x2 : γ} {x3 : ε} {x4 : ζ} {x5 : η} {x6 : θ} {o : δ} (h : un7 k (x0, x1, x2, x3, x4, x5, x6) = o) : k x0 x1 x2 x3 x4 x5 x6 = o := h
theorem un8_at {α β γ ε ζ η θ ι δ : Type} {k : α → β → γ → ε → ζ → η → θ → ι → δ} {x0 : α} {x1 : β} {x2 : γ} {x3 : ε} {x4 : ζ} {x5 : η} {x6 : θ} {x7 : ι} {o : δ} (h : un8 k (x0, x1, x2, x3, x4, x5, x6, x7) = o) : k x0 x1 x2 x3 x4 x5 x6 x7 = o := h
theorem un9_at {α β γ ε ζ η θ ι κ δ : Type} {k : α → β → γ → ε → ζ → η → θ → ι → κ → δ} {x0 : α} {x1 : β} {x2 : γ} {x3 : ε} {x4 : ζ} {x5 : η} {x6 : θ} {x7 : ι} {x8 : κ} {o : δ} (h : un9 k (x0, x1, x2, x3, x4, x5, x6, x7, x8) = o) : k x0 x1 x2 x3 x4 x5 x6 x7 x8 = o := h
theorem un10_at {α β γ ε ζ η θ ι κ μ δ : Type} {k : α → β → γ → ε → ζ → η → θ → ι → κ → μ → δ} {x0 : α} {x1 : β} {x2 : γ} {x3 : ε} {x4 : ζ} {x5 : η} {x6 : θ} {x7 : ι} {x8 : κ} {x9 : μ} {o : δ} (h : un10 k (x0, x1, x2, x3, x4, x5, x6, x7, x8, x9) = o) : k x0 x1 x2 x3 x4 x5 x6 x7 x8 x9 = o := h
theorem un11_at {α β γ ε ζ η θ ι κ μ ν δ : Type} {k : α → β → γ → ε → ζ → η → θ → ι → κ → μ → ν → δ} {x0 : α} {x1 : β} {x2 : γ} {x3 : ε} {x4 : ζ} {x5 : η} {x6 : θ} {x7 : ι} {x8 : κ} {x9 : μ} {x10 : ν} {o : δ} (h : un11 k (x0, x1, x2, x3, x4, x5, x6, x7, x8, x9, x10) = o) : k x0 x1 x2 x3 x4 x5 x6 x7 x8 x9 x10 = o := h
theorem un12_at {α β γ ε ζ η θ ι κ μ ν ξ δ : Type} {k : α → β → γ → ε → ζ → η → θ → ι → κ → μ → ν → ξ → δ} {x0 : α} {x1 : β} {x2 : γ} {x3 : ε} {x4 : ζ} {x5 : η} {x6 : θ} {x7 : ι} {x8 : κ} {x9 : μ} {x10 : ν} {x11 : ξ} {o : δ} (h : un12 k (x0, x1, x2, x3, x4, x5, x6, x7, x8, x9, x10, x11) = o) : k x0 x1 x2 x3 x4 x5 x6 x7 x8 x9 x10 x11 = o := h
theorem sE_l {α β δ : Type} {f : α → δ} {k : β → δ} {a : α} {o : δ} (h : Sum.elim f k (.inl a) = o) : f a = o := h
theorem sE_r {α β δ : Type} {f : α → δ} {k : β → δ} {b : β} {o : δ} (h : Sum.elim f k (.inr b) = o) : k b = o := h
theorem un2_at {α β δ : Type} {k : α → β → δ} {a : α} {b : β} {o : δ} (h : un2 k (a, b) = o) : k a b = o := h
section ROWS9
variable {p : Program} {l : Launch} {e : Env} {R : Room} {s : State} {m : MethodId} {args : Array Value} {below : List Frame} {meth : Method} {c : Code} {H : Heap} {locs : List Loc} {cells slots : Nat} {Q : State → Prop}
variable {g : G9} {A : Nat → Prop} {cc : ByteArray} {n : Nat} {own : String} {ws : va_W} {pc : Nat} {ls : Array Slot} {rest : List Value} {a idx : Nat}
theorem rTopi {x y : Int32} (h : x = y) (k : W p l e R s m args below meth c H locs cells slots Q (F0 m pc ls (.int x :: rest))) : W p l e R s m args below meth c H locs cells slots Q (F0 m pc ls (.int y :: rest)) := h ▸ k
theorem rTopl {x y : Int64} (h : x = y) (k : W p l e R s m args below meth c H locs cells slots Q (F0 m pc ls (.long x :: rest))) : W p l e R s m args below meth c H locs cells slots Q (F0 m pc ls (.long y :: rest)) := h ▸ k
theorem rGet (M : MC p s m args meth c cc n own g A) (hW : WD g s A ws H locs) (q0 k : Nat) {ci N : Nat} {C : String} {T : u_T} {fs : List Value} (hU : ∀ w ∈ u_ws C T N, w ∈ U0) (he : ws[q0]? = some (a, .inr (ci, fs))) (hc : vwCl[ci]? = some (C, T, N)) (hk : k < N) (hlink : Cond.fieldLink own idx (T k).1 (T k).2.1 (T k).2.2.1 ∈ U0) {v : Value} (hv : fs[k]? = some v) (hdg : decode cc pc = .ok (.getfield idx, 3))
    (kk : W p l e R s m args below meth c H locs cells slots Q (F0 m (pc + 3) ls (v :: rest))) : W p l e R s m args below meth c H locs cells slots Q (F0 m pc ls (.ref a :: rest)) :=
  va_get (D := gD g) M.1 M.2.1 M.2.2.2.2.1 hU M.2.2.2.1 M.2.2.2.2.2.2.1 hW.1 q0 he hc k hk (M.2.2.2.2.1 _ hlink) (fun _ h => h) hv hdg kk
theorem rPut (M : MC p s m args meth c cc n own g A) (hW : WD g s A ws H locs) (q0 k : Nat) {ci N : Nat} {C : String} {T : u_T} {fs : List Value} (ty0 : Nat → FieldType) (hty : ∀ k, k < N → parseFieldDescriptor (T k).2.2.1 = some (ty0 k)) (hnm : ∀ a, a < N → ∀ b, b < N → a ≠ b → (T a).2.1 ≠ (T b).2.1) (hU : ∀ w ∈ u_ws C T N, w ∈ U0) (he : ws[q0]? = some (a, .inr (ci, fs))) (hc : vwCl[ci]? = some (C, T, N)) (hk : k < N) (hlink : Cond.fieldLink own idx (T k).1 (T k).2.1 (T k).2.2.1 ∈ U0) (hfin : (T k).2.2.2 = false) {v : Value} (hn : narrow (ty0 k) v = v) (hfit : fits (ty0 k) v = true) (hl : k < fs.length) (hdg : decode cc pc = .ok (.putfield idx, 3))
    {ws' : va_W} (hws : ws.set q0 (a, .inr (ci, fs.set k v)) = ws')
    (kk : ∀ (H1 : Heap) (locs1 : List Loc), WD g s A ws' H1 locs1 → W p l e R s m args below meth c H1 locs1 cells slots Q (F0 m (pc + 3) ls rest)) : W p l e R s m args below meth c H locs cells slots Q (F0 m pc ls (v :: .ref a :: rest)) := by
  subst hws
  exact va_put (D := gD g) M.1 M.2.1 M.2.2.2.2.1 hU ty0 hty hnm M.2.2.2.1 M.2.2.2.2.2.2.1 hW.1 hW.2.1 hW.2.2 q0 he hc k hk (M.2.2.2.2.1 _ hlink) (fun _ h => h) hfin (hty k hk) hn hfit hl hdg (fun H1 locs1 hP hD hS => kk H1 locs1 ⟨hP, hD, hS⟩)
theorem rIald (M : MC p s m args meth c cc n own g A) (hW : WD g s A ws H locs) (q0 : Nat) {N : Nat} {f : Ar} (ha : ws[q0]? = some (ia g a N f)) {i : Int32} (hin : ix i N = true) (hdg : decode cc pc = .ok (.iaload, 1))
    (kk : W p l e R s m args below meth c H locs cells slots Q (F0 m (pc + 1) ls (.int (f i.toNatClampNeg) :: rest))) : W p l e R s m args below meth c H locs cells slots Q (F0 m pc ls (.int i :: .ref a :: rest)) :=
  va_iald (D := gD g) M.1 M.2.1 M.2.2.2.2.2.2.1 hW.1 q0 0 ha rfl (ix_in hin) hdg kk
theorem rZald (M : MC p s m args meth c cc n own g A) (hW : WD g s A ws H locs) (q0 : Nat) {N : Nat} {f : Ar} (ha : ws[q0]? = some (za g a N f)) {i : Int32} (hin : ix i N = true) (hdg : decode cc pc = .ok (.baload, 1))
    (kk : W p l e R s m args below meth c H locs cells slots Q (F0 m (pc + 1) ls (.int (f i.toNatClampNeg) :: rest))) : W p l e R s m args below meth c H locs cells slots Q (F0 m pc ls (.int i :: .ref a :: rest)) :=
  va_zald (D := gD g) M.1 M.2.1 M.2.2.2.2.2.2.1 hW.1 q0 1 ha rfl (ix_in hin) hdg kk
theorem rIast (M : MC p s m args meth c cc n own g A) (hW : WD g s A ws H locs) (q0 : Nat) {N : Nat} {f f' : Ar} (ha : ws[q0]? = some (ia g a N f)) {i x : Int32} (hin : ix i N = true) (hf : f' = upd f i.toNatClampNeg x) {ws' : va_W} (hws : ws.set q0 (ia g a N f') = ws') (hdg : decode cc pc = .ok (.iastore, 1))
    (kk : ∀ (H1 : Heap) (locs1 : List Loc), WD g s A ws' H1 locs1 → W p l e R s m args below meth c H1 locs1 cells slots Q (F0 m (pc + 1) ls rest)) : W p l e R s m args below meth c H locs cells slots Q (F0 m pc ls (.int x :: .int i :: .ref a :: rest)) := by
  subst hf
  subst hws
  exact va_iast (D := gD g) M.1 M.2.1 M.2.2.2.2.2.2.1 hW.1 hW.2.1 hW.2.2 q0 0 ha rfl (ix_in hin) hdg (fun H1 locs1 hP hD hS => kk H1 locs1 ⟨hP, hD, hS⟩)
theorem rZast (M : MC p s m args meth c cc n own g A) (hW : WD g s A ws H locs) (q0 : Nat) {N : Nat} {f f' : Ar} (ha : ws[q0]? = some (za g a N f)) {i x : Int32} (hin : ix i N = true) (hf : f' = upd f i.toNatClampNeg (vp_nar .boolean x)) {ws' : va_W} (hws : ws.set q0 (za g a N f') = ws') (hdg : decode cc pc = .ok (.bastore, 1))
    (kk : ∀ (H1 : Heap) (locs1 : List Loc), WD g s A ws' H1 locs1 → W p l e R s m args below meth c H1 locs1 cells slots Q (F0 m (pc + 1) ls rest)) : W p l e R s m args below meth c H locs cells slots Q (F0 m pc ls (.int x :: .int i :: .ref a :: rest)) := by
  subst hf
  subst hws
  exact va_zast (D := gD g) M.1 M.2.1 M.2.2.2.2.2.2.1 hW.1 hW.2.1 hW.2.2 q0 1 ha rfl (ix_in hin) hdg (fun H1 locs1 hP hD hS => kk H1 locs1 ⟨hP, hD, hS⟩)
theorem rAlenI (M : MC p s m args meth c cc n own g A) (hW : WD g s A ws H locs) (q0 : Nat) {N : Nat} {f : Ar} (ha : ws[q0]? = some (ia g a N f)) (hdg : decode cc pc = .ok (.arraylength, 1))
    (kk : W p l e R s m args below meth c H locs cells slots Q (F0 m (pc + 1) ls (.int (nI N) :: rest))) : W p l e R s m args below meth c H locs cells slots Q (F0 m pc ls (.ref a :: rest)) :=
  va_alen (D := gD g) M.1 M.2.1 M.2.2.2.2.2.2.1 hW.1 q0 0 ha rfl rfl hdg kk
theorem rAlenZ (M : MC p s m args meth c cc n own g A) (hW : WD g s A ws H locs) (q0 : Nat) {N : Nat} {f : Ar} (ha : ws[q0]? = some (za g a N f)) (hdg : decode cc pc = .ok (.arraylength, 1))
    (kk : W p l e R s m args below meth c H locs cells slots Q (F0 m (pc + 1) ls (.int (nI N) :: rest))) : W p l e R s m args below meth c H locs cells slots Q (F0 m pc ls (.ref a :: rest)) :=
  va_alen (D := gD g) M.1 M.2.1 M.2.2.2.2.2.2.1 hW.1 q0 1 ha rfl rfl hdg kk
theorem rAlenR (M : MC p s m args meth c cc n own g A) (hW : WD g s A ws H locs) (q0 : Nat) {N : Nat} {f : Nat → Option Nat} (ha : ws[q0]? = some (ra g a N f)) (hdg : decode cc pc = .ok (.arraylength, 1))
    (kk : W p l e R s m args below meth c H locs cells slots Q (F0 m (pc + 1) ls (.int (nI N) :: rest))) : W p l e R s m args below meth c H locs cells slots Q (F0 m pc ls (.ref a :: rest)) :=
  va_alen (D := gD g) M.1 M.2.1 M.2.2.2.2.2.2.1 hW.1 q0 3 ha rfl rfl hdg kk
theorem rAald (M : MC p s m args meth c cc n own g A) (hW : WD g s A ws H locs) (q0 : Nat) {N : Nat} {f : Nat → Option Nat} (ha : ws[q0]? = some (ra g a N f)) {i : Int32} (hin : ix i N = true) {v : Value} (hv : va_rf (f i.toNatClampNeg) = v) (hdg : decode cc pc = .ok (.aaload, 1))
    (kk : W p l e R s m args below meth c H locs cells slots Q (F0 m (pc + 1) ls (v :: rest))) : W p l e R s m args below meth c H locs cells slots Q (F0 m pc ls (.int i :: .ref a :: rest)) := by
  subst hv
  exact va_aldq (D := gD g) M.1 M.2.1 M.2.2.2.2.2.2.1 hW.1 q0 3 ha rfl (ix_in hin) hdg kk
/-- STEPS, out of a nest mate -/
theorem rStepsN (M : MC p s m args meth c cc n own g A) (hW : WD g s A ws H locs) (hl : va_Nw (.fieldLinkNest own idx RX9 "STEPS" "[I" RX9) s) (hdg : decode cc pc = .ok (.getstatic idx, 3))
    (kk : W p l e R s m args below meth c H locs cells slots Q (F0 m (pc + 3) ls (.ref (gS g) :: rest))) : W p l e R s m args below meth c H locs cells slots Q (F0 m pc ls rest) :=
  va_getsN M.1 M.2.1 M.2.2.2.2.2.2.2.2.1 hW.2.2 M.2.2.2.1 (va_Nw.use rfl hl) (fun _ h => h) hdg kk
theorem rStep (M : MC p s m args meth c cc n own g A) (hW : WD g s A ws H locs) {i : Int32} (hin : ix i 8 = true) (hdg : decode cc pc = .ok (.iaload, 1))
    (kk : W p l e R s m args below meth c H locs cells slots Q (F0 m (pc + 1) ls (.int (stepA i.toNatClampNeg) :: rest))) : W p l e R s m args below meth c H locs cells slots Q (F0 m pc ls (.int i :: .ref (gS g) :: rest)) :=
  va_ti M.1 M.2.1 M.2.2.2.2.2.2.2.2.2.1 hW.2.2 (ix_in hin) rfl hdg kk
theorem rMax (M : MC p s m args meth c cc n own g A) (hls : ls.size = n) (hl : Cond.methodLink own idx Lib.Math.max.name ∈ U0) (h2 : Cond.static Lib.Math.max.name ∈ U0) (h3 : Cond.initialized "java/lang/Math" ∈ U0) (h4 : Cond.code Lib.Math.max.name Lib.Math.max.code 2 (some .int) ∈ U0) (hRm : 1 ≤ R.frames ∧ 21 ≤ R.locals) (hrest : (rest.map fun v => v.category).sum ≤ 8) (hcs : cells ≤ R.cells ∧ slots ≤ R.slots) {x y : Int32} (hdg : decode cc pc = .ok (.invokestatic idx, 3))
    (kk : W p l e R s m args below meth c H locs cells slots Q (F0 m (pc + 3) ls (.int (if x < y then y else x) :: rest))) : W p l e R s m args below meth c H locs cells slots Q (F0 m pc ls (.int y :: .int x :: rest)) :=
  va_mmax M.1 M.2.1 (M.2.2.1.trans hls.symm) M.2.2.2.1 (M.2.2.2.2.1 _ hl) (M.2.2.2.2.1 _ h2) (M.2.2.2.2.1 _ h3) (M.2.2.2.2.1 _ h4) hRm.1 (by omega) hcs.1 hcs.2 hdg kk
theorem rMin (M : MC p s m args meth c cc n own g A) (hls : ls.size = n) (hl : Cond.methodLink own idx Lib.Math.min.name ∈ U0) (h2 : Cond.static Lib.Math.min.name ∈ U0) (h3 : Cond.initialized "java/lang/Math" ∈ U0) (h4 : Cond.code Lib.Math.min.name Lib.Math.min.code 2 (some .int) ∈ U0) (hRm : 1 ≤ R.frames ∧ 21 ≤ R.locals) (hrest : (rest.map fun v => v.category).sum ≤ 8) (hcs : cells ≤ R.cells ∧ slots ≤ R.slots) {x y : Int32} (hdg : decode cc pc = .ok (.invokestatic idx, 3))
    (kk : W p l e R s m args below meth c H locs cells slots Q (F0 m (pc + 3) ls (.int (if y < x then y else x) :: rest))) : W p l e R s m args below meth c H locs cells slots Q (F0 m pc ls (.int y :: .int x :: rest)) :=
  va_mmin M.1 M.2.1 (M.2.2.1.trans hls.symm) M.2.2.2.1 (M.2.2.2.2.1 _ hl) (M.2.2.2.2.1 _ h2) (M.2.2.2.2.1 _ h3) (M.2.2.2.2.1 _ h4) hRm.1 (by omega) hcs.1 hcs.2 hdg kk
theorem rAbs (M : MC p s m args meth c cc n own g A) (hls : ls.size = n) (hl : Cond.methodLink own idx Lib.Math.abs.name ∈ U0) (h2 : Cond.static Lib.Math.abs.name ∈ U0) (h3 : Cond.initialized "java/lang/Math" ∈ U0) (h4 : Cond.code Lib.Math.abs.name Lib.Math.abs.code 1 (some .int) ∈ U0) (hRm : 1 ≤ R.frames ∧ 21 ≤ R.locals) (hrest : (rest.map fun v => v.category).sum ≤ 8) (hcs : cells ≤ R.cells ∧ slots ≤ R.slots) {x : Int32} (hdg : decode cc pc = .ok (.invokestatic idx, 3))
    (kk : W p l e R s m args below meth c H locs cells slots Q (F0 m (pc + 3) ls (.int (if 0 ≤ x then x else 0 - x) :: rest))) : W p l e R s m args below meth c H locs cells slots Q (F0 m pc ls (.int x :: rest)) :=
  va_mabs M.1 M.2.1 (M.2.2.1.trans hls.symm) M.2.2.2.1 (M.2.2.2.2.1 _ hl) (M.2.2.2.2.1 _ h2) (M.2.2.2.2.1 _ h3) (M.2.2.2.2.1 _ h4) hRm.1 (by omega) hcs.1 hcs.2 hdg kk
end ROWS9
