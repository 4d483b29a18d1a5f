/-- how many below n -/
def cnt (p : Nat → Bool) : Nat → Nat
  | 0 => 0
  | n + 1 => cnt p n + if p n then 1 else 0
def dxs : List Int := [-1, 1, 0, 0, -1, 1, -1, 1]
def dys : List Int := [0, 0, -1, 1, -1, -1, 1, 1]
/-- the square that step k leads to -/
def stp (s k : Nat) : Option Nat :=
  if 0 ≤ (s % 40 : Nat) + dxs.getD k 0 ∧ (s % 40 : Nat) + dxs.getD k 0 < 40 ∧ 0 ≤ (s / 40 : Nat) + dys.getD k 0 ∧ (s / 40 : Nat) + dys.getD k 0 < 30 then some (40 * ((s / 40 : Nat) + dys.getD k 0) + ((s % 40 : Nat) + dxs.getD k 0)).toNat else none
/-- a bit for each step that leads to what isn't out -/
def NearOK (kd nr : Ar) : Prop := ∀ s, s < 1200 → ∃ b : Nat, b < 256 ∧ nr s = nI b ∧ ∀ k, k < 8 → (b.testBit k = true ↔ ∃ t, stp s k = some t ∧ ¬ kd t = 0)
def LandOK (head fc ic : Int32) (kd nr : Ar) (head' : Int32) (wh : Ar) : Prop :=
  (∃ h : Nat, h ≤ 5 ∧ head = nI h ∧ head' = nI h) ∧ (∀ s, s < 1200 → kd s = wh s ∧ (kd s = 0 ∨ kd s = 1 ∨ kd s = 2)) ∧ NearOK kd nr ∧
  fc = nI (cnt (fun s => decide (¬ kd s = 0)) 1200) ∧ ic = nI (cnt (fun s => decide (kd s = 2)) 1200)
def ILand (laid head fc ic : Int32) (kd nr : Ar) (isLaid head' : Int32) (wh : Ar) : Prop :=
  (laid = 0 ∧ isLaid = 0 ∧ head = 0 ∧ fc = 0 ∧ ic = 0) ∨ (laid = 1 ∧ isLaid = 1 ∧ LandOK head fc ic kd nr head' wh)
