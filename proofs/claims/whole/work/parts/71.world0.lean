/-! THE FIRST WORLD: written by program -/
abbrev UU : Type := (Nat → Nat) × (Nat → ClassId)
def adl (h4 h5 : Nat) (u4 u5 : UU) : Nat → Nat → Nat := fun s n => match s with
  | 0 => oh_nth [u4.1 9, u4.1 16, u4.1 23] n 0
  | 1 => oh_nth [u4.1 10, u4.1 17, u4.1 24] n 0
  | 2 => oh_nth [u4.1 11, u4.1 18, u4.1 25] n 0
  | 3 => oh_nth [u4.1 12, u4.1 19, u4.1 26] n 0
  | 4 => oh_nth [u4.1 13, u4.1 20, u4.1 27] n 0
  | 5 => oh_nth [u4.1 14, u4.1 21, u4.1 28] n 0
  | 6 => oh_nth [u4.1 15, u4.1 22, u4.1 29] n 0
  | 7 => oh_nth [u4.1 4, u4.1 6] n 0
  | 8 => oh_nth [u4.1 5, u4.1 7] n 0
  | 9 => oh_nth [u4.1 37, u4.1 39, u4.1 41, u4.1 43] n 0
  | 10 => oh_nth [u4.1 38, u4.1 40, u4.1 42, u4.1 44] n 0
  | 11 => oh_nth [u4.1 0, u4.1 2] n 0
  | 12 => oh_nth [u4.1 1, u4.1 3] n 0
  | 13 => oh_nth [h4] n 0
  | 14 => oh_nth [u4.1 8] n 0
  | 15 => oh_nth [u4.1 30] n 0
  | 16 => oh_nth [u4.1 31] n 0
  | 17 => oh_nth [u4.1 32] n 0
  | 18 => oh_nth [u4.1 33] n 0
  | 19 => oh_nth [u4.1 34] n 0
  | 20 => oh_nth [u4.1 35] n 0
  | 21 => oh_nth [u4.1 36] n 0
  | 22 => oh_nth [h5] n 0
  | 23 => oh_nth [u5.1 0] n 0
  | 24 => oh_nth [u5.1 1] n 0
  | 25 => oh_nth [u5.1 2] n 0
  | 26 => oh_nth [u5.1 3] n 0
  | 27 => oh_nth [u5.1 4] n 0
  | 28 => oh_nth [u5.1 5] n 0
  | 29 => oh_nth [u5.1 6] n 0
  | 30 => oh_nth [u5.1 7] n 0
  | 31 => oh_nth [u5.1 8] n 0
  | 32 => oh_nth [u5.1 9] n 0
  | 33 => oh_nth [u5.1 10] n 0
  | 34 => oh_nth [u5.1 11] n 0
  | 35 => oh_nth [u5.1 12] n 0
  | 36 => oh_nth [u5.1 13] n 0
  | 37 => oh_nth [u5.1 14] n 0
  | 38 => oh_nth [u5.1 15] n 0
  | 39 => oh_nth [u5.1 16] n 0
  | 40 => oh_nth [u5.1 17] n 0
  | 41 => oh_nth [u5.1 18] n 0
  | _ => 0
def cal (u4 u5 : UU) : Nat → Nat → ClassId := fun s n => match s with
  | 1 => oh_nth [u4.2 5, u4.2 11, u4.2 17] n (u4.2 0)
  | 2 => oh_nth [u4.2 6, u4.2 12, u4.2 18] n (u4.2 0)
  | 3 => oh_nth [u4.2 7, u4.2 13, u4.2 19] n (u4.2 0)
  | 4 => oh_nth [u4.2 8, u4.2 14, u4.2 20] n (u4.2 0)
  | 5 => oh_nth [u4.2 9, u4.2 15, u4.2 21] n (u4.2 0)
  | 6 => oh_nth [u4.2 10, u4.2 16, u4.2 22] n (u4.2 0)
  | 8 => oh_nth [u4.2 2, u4.2 3] n (u4.2 0)
  | 10 => oh_nth [u4.2 30, u4.2 31, u4.2 32, u4.2 33] n (u4.2 0)
  | 12 => oh_nth [u4.2 0, u4.2 1] n (u4.2 0)
  | 14 => oh_nth [u4.2 4] n (u4.2 0)
  | 15 => oh_nth [u4.2 23] n (u4.2 0)
  | 16 => oh_nth [u4.2 24] n (u4.2 0)
  | 17 => oh_nth [u4.2 25] n (u4.2 0)
  | 18 => oh_nth [u4.2 26] n (u4.2 0)
  | 19 => oh_nth [u4.2 27] n (u4.2 0)
  | 20 => oh_nth [u4.2 28] n (u4.2 0)
  | 21 => oh_nth [u4.2 29] n (u4.2 0)
  | 23 => oh_nth [u5.2 0] n (u4.2 0)
  | 24 => oh_nth [u5.2 1] n (u4.2 0)
  | 25 => oh_nth [u5.2 2] n (u4.2 0)
  | 26 => oh_nth [u5.2 3] n (u4.2 0)
  | 27 => oh_nth [u5.2 4] n (u4.2 0)
  | 28 => oh_nth [u5.2 5] n (u4.2 0)
  | 29 => oh_nth [u5.2 6] n (u4.2 0)
  | 30 => oh_nth [u5.2 7] n (u4.2 0)
  | 31 => oh_nth [u5.2 8] n (u4.2 0)
  | 32 => oh_nth [u5.2 9] n (u4.2 0)
  | 33 => oh_nth [u5.2 10] n (u4.2 0)
  | 34 => oh_nth [u5.2 11] n (u4.2 0)
  | 35 => oh_nth [u5.2 12] n (u4.2 0)
  | 36 => oh_nth [u5.2 13] n (u4.2 0)
  | 37 => oh_nth [u5.2 14] n (u4.2 0)
  | 38 => oh_nth [u5.2 15] n (u4.2 0)
  | 39 => oh_nth [u5.2 16] n (u4.2 0)
  | 40 => oh_nth [u5.2 17] n (u4.2 0)
  | 41 => oh_nth [u5.2 18] n (u4.2 0)
  | _ => u4.2 0
def mu0 : Mem := fun s n j => match s with
  | 0 => if j = 0 then (if n < 3 then (n : Int) else 0) else if j = 8 then 1 else 0
  | 8 => if 0 ≤ j ∧ j < 144 then j / 24 else 0
  | 9 => if j = 2 then -1 else 0
  | 11 => if j = 1 then ldd n else if j = 2 then stp n else if j = 3 then lst n else if j = 4 then onc n else if j = 6 then -1 else 0
  | 23 => if 0 ≤ j ∧ j < 4 then -1 else 0
  | _ => 0
def A0 : Ab := fun r _ => if r = 8 then -1 else 0
theorem mu0_wf : oh_wfM mu0 := by
  intro s n j
  unfold mu0 oh_rgI
  have h1 : -10 ≤ ldd n ∧ ldd n ≤ 10 := by unfold ldd; split <;> omega
  have h2 : -10 ≤ stp n ∧ stp n ≤ 10 := by unfold stp; split <;> omega
  have h3 : -10 ≤ lst n ∧ lst n ≤ 10 := by unfold lst; split <;> omega
  have h4 : -10 ≤ onc n ∧ onc n ≤ 10 := by unfold onc; split <;> omega
  split
  · split
    · split <;> omega
    · split <;> omega
  · split <;> omega
  · split <;> omega
  · split
    · omega
    · split
      · omega
      · split
        · omega
        · split
          · omega
          · split <;> omega
  · split <;> omega
  · omega
theorem tl0 (n : Nat) : tl n A0 = 0 := by
  unfold tl
  split <;> rfl
theorem tB0 (n : Nat) : tB n A0 = -1 := by
  unfold tB
  rw [tl0]
  rfl
theorem tE0 (n : Nat) : tE n A0 = 0 := by
  unfold tE ents
  rw [tl0, tB0]
  have hs : stp n = 5 ∨ stp n = 6 := by unfold stp; split <;> omega
  have : flw n 0 (-1) = -1 := by
    unfold flw
    rw [if_neg (by decide), if_pos (Or.inl rfl)]
  rw [if_pos this]
  rcases hs with h | h <;> rw [h] <;> rfl
theorem aw0 (c : Int) : aw A0 c = c / 24 := by
  unfold aw
  rw [tE0]
  rfl
theorem Rep0T (n : Nat) (hn : n < 2) : RepT n A0 mu0 := by
  refine ⟨⟨rfl, rfl, rfl, rfl⟩, ?_, ?_, ?_, ?_, ?_⟩
  · rw [tl0]; rfl
  · rw [tB0]; rfl
  · rw [tl0]; omega
  · intro j a b
    rw [tl0] at b
    omega
  · have : A0 n = fun _ => if n = 8 then -1 else 0 := rfl
    rw [this, if_neg (by omega)]
    rfl
theorem Rep0C : RepC A0 mu0 := by
  refine ⟨⟨Rep0T 0 (by omega), Rep0T 1 (by omega), ?_, ⟨rfl, ?_⟩, ⟨rfl, ?_⟩, ⟨rfl, ?_⟩, rfl, ⟨⟨rfl, ?_⟩, rfl, rfl, ?_⟩, ?_⟩, ?_, ?_⟩
  · intro l hl
    show (if (0 : Int) = 0 then (if l < 3 then (l : Int) else 0) else if (0 : Int) = 8 then (1 : Int) else 0) = (l : Int)
    rw [if_pos rfl, if_pos hl]
  · intro j _ _
    exact ⟨Int.le_refl 0, (by decide : (0 : Int) ≤ 9)⟩
  · intro j _ _
    exact ⟨Int.le_refl 0, (by decide : (0 : Int) ≤ 9)⟩
  · exact ⟨Int.le_refl 0, (by decide : (0 : Int) ≤ 2)⟩
  · exact ⟨Int.le_refl 0, (by decide : (0 : Int) ≤ 8)⟩
  · intro j a b
    have b : j < 0 := b
    omega
  · intro s hs
    refine ⟨rfl, ⟨(by decide : (-1 : Int) ≤ -1), (by decide : (-1 : Int) ≤ 60)⟩, fun q => absurd rfl q, ?_⟩
    have : A0 (9 + s) = fun _ => if 9 + s = 8 then -1 else 0 := rfl
    rw [this, if_neg (by omega)]
    rfl
  · intro x a b
    rw [aw0]
    show (if 0 ≤ x ∧ x < 144 then x / 24 else 0) = x / 24
    rw [if_pos ⟨a, b⟩]
  · intro l hl
    exact ⟨Or.inl rfl, fun q => absurd (show (1 : Int) = 0 from q) (by decide)⟩
theorem Rep0M : RepM A0 mu0 := by
  refine ⟨⟨rfl, rfl, rfl⟩, ?_, fun j _ _ => rfl, fun j _ _ => rfl, ?_, ?_, rfl⟩
  · intro t ht
    refine ⟨by rw [tl0]; rfl, fun j a b => ?_⟩
    rw [tl0] at b
    omega
  · intro j a b
    have b : j < 0 := b
    omega
  · intro s hs
    refine ⟨fun _ => ?_, fun q => absurd rfl q⟩
    show (if 0 ≤ (s : Int) ∧ (s : Int) < 4 then (-1 : Int) else 0) = -1
    rw [if_pos (by omega)]
