/-! ROWS OF HOURS from both ends -/
def inH (a : Int → Int) (p b h : Int) : Prop := (0 ≤ b ∧ b < 6) ∧ a (b * 24 + h) = p
def lkH (pl : Int → Int) (fl b c h : Int) : Prop := fl = 0 ∨ pl (b * 24 + h) = pl (c * 24 + h)
/-- a row of L + 1 hours from hour h on, from body b to body c -/
def RwE (a pl : Int → Int) (p fl : Int) : Nat → Int → Int → Int → Prop
  | 0, h, b, c => b = c ∧ inH a p b h
  | L + 1, h, b, c => ∃ d, RwE a pl p fl L h b d ∧ inH a p c (h + L + 1) ∧ lkH pl fl d c (h + L)
theorem RwE_front {a pl : Int → Int} {p fl : Int} : ∀ (L : Nat) (h b c : Int), RwE a pl p fl (L + 1) h b c ↔ ∃ d, (inH a p b h ∧ lkH pl fl b d h) ∧ RwE a pl p fl L (h + 1) d c
  | 0, h, b, c => by
    constructor
    · rintro ⟨d, ⟨rfl, h1⟩, h2, h3⟩
      refine ⟨c, ⟨h1, ?_⟩, rfl, ?_⟩
      · rw [show h + ((0 : Nat) : Int) = h by omega] at h3
        exact h3
      · rw [show h + ((0 : Nat) : Int) + 1 = h + 1 by omega] at h2
        exact h2
    · rintro ⟨d, ⟨h1, h2⟩, rfl, h3⟩
      refine ⟨b, ⟨rfl, h1⟩, ?_, ?_⟩
      · rw [show h + ((0 : Nat) : Int) + 1 = h + 1 by omega]
        exact h3
      · rw [show h + ((0 : Nat) : Int) = h by omega]
        exact h2
  | L + 1, h, b, c => by
    constructor
    · rintro ⟨d, h1, h2, h3⟩
      obtain ⟨e, h4, h5⟩ := (RwE_front L h b d).mp h1
      refine ⟨e, h4, d, h5, ?_, ?_⟩
      · rw [show h + 1 + (L : Int) + 1 = h + ((L + 1 : Nat) : Int) + 1 by omega]
        exact h2
      · rw [show h + 1 + (L : Int) = h + ((L + 1 : Nat) : Int) by omega]
        exact h3
    · rintro ⟨e, h4, d, h5, h2, h3⟩
      refine ⟨d, (RwE_front L h b d).mpr ⟨e, h4, h5⟩, ?_, ?_⟩
      · rw [show h + ((L + 1 : Nat) : Int) + 1 = h + 1 + (L : Int) + 1 by omega]
        exact h2
      · rw [show h + ((L + 1 : Nat) : Int) = h + 1 + (L : Int) by omega]
        exact h3
theorem mx_ge {f : Int → Int} {B : Int} (hB : 1 ≤ B) : ∀ n : Nat, B ≤ mx f n ↔ ∃ j : Int, 0 ≤ j ∧ j < n ∧ B ≤ f j
  | 0 => ⟨fun q => absurd (show B ≤ 0 from q) (by omega), fun ⟨j, a, b, _⟩ => absurd b (by omega)⟩
  | n + 1 => by
    have ih := mx_ge (f := f) hB n
    show B ≤ max (mx f n) (f n) ↔ _
    constructor
    · intro q
      by_cases e : B ≤ f n
      · exact ⟨n, by omega, by omega, e⟩
      · obtain ⟨j, a, b, c⟩ := ih.mp (by omega)
        exact ⟨j, a, by omega, c⟩
    · rintro ⟨j, a, b, c⟩
      by_cases e : j = n
      · rw [e] at c
        omega
      · have := ih.mpr ⟨j, a, by omega, c⟩
        omega
theorem er_row {a pl : Int → Int} {p fl : Int} : ∀ (h L : Nat) (c : Int), 0 ≤ c → c < 6 → ((L : Int) + 1 ≤ er a pl p fl h c ↔ L ≤ h ∧ ∃ b, RwE a pl p fl L ((h : Int) - L) b c)
  | 0, L, c, c0, c1 => by
    have e : er a pl p fl 0 c = if a (c * 24 + 0) = p then 1 + ahm pl fl (fun _ => 0) c 0 else 0 := rfl
    have e2 : ahm pl fl (fun _ => 0) c 0 = 0 := if_neg (by omega)
    rw [e, e2]
    constructor
    · intro q
      split at q
      · rename_i hp
        have : L = 0 := by omega
        subst this
        exact ⟨by omega, c, rfl, ⟨c0, c1⟩, hp⟩
      · omega
    · rintro ⟨q1, b, q2⟩
      have : L = 0 := by omega
      subst this
      obtain ⟨rfl, q3⟩ := q2
      have q4 : a (b * 24 + 0) = p := q3.2
      rw [if_pos q4]
      omega
  | h + 1, L, c, c0, c1 => by
    have e : er a pl p fl (h + 1) c = if a (c * 24 + ((h + 1 : Nat) : Int)) = p then 1 + ahm pl fl (er a pl p fl h) c ((h + 1 : Nat) : Int) else 0 := rfl
    have e2 : ahm pl fl (er a pl p fl h) c ((h + 1 : Nat) : Int) = mx (ahd pl fl (er a pl p fl h) c ((h + 1 : Nat) : Int)) 6 := if_pos (by omega)
    have e3 : ∀ (B d : Int), 1 ≤ B → (B ≤ ahd pl fl (er a pl p fl h) c ((h + 1 : Nat) : Int) d ↔ lkH pl fl d c h ∧ B ≤ er a pl p fl h d) := fun B d hB => by
      unfold ahd lkH
      rw [show ((h + 1 : Nat) : Int) - 1 = (h : Int) by omega]
      by_cases z : fl = 0 ∨ pl (d * 24 + (h : Int)) = pl (c * 24 + (h : Int))
      · rw [if_pos z]
        exact ⟨fun q => ⟨z, q⟩, fun q => q.2⟩
      · rw [if_neg z]
        exact ⟨fun q => by omega, fun q => absurd q.1 z⟩
    have hnn := mx_nn (ahd pl fl (er a pl p fl h) c ((h + 1 : Nat) : Int)) 6
    rw [e, e2]
    by_cases hp : a (c * 24 + ((h + 1 : Nat) : Int)) = p
    · rw [if_pos hp]
      cases L with
      | zero =>
        constructor
        · intro _
          refine ⟨by omega, c, rfl, ⟨c0, c1⟩, ?_⟩
          rw [show ((h + 1 : Nat) : Int) - ((0 : Nat) : Int) = ((h + 1 : Nat) : Int) by omega]
          exact hp
        · intro _
          omega
      | succ M =>
        have hm := mx_ge (f := ahd pl fl (er a pl p fl h) c ((h + 1 : Nat) : Int)) (B := (M : Int) + 1) (by omega) 6
        constructor
        · intro q
          obtain ⟨d, d0, d1, d2⟩ := hm.mp (by omega)
          obtain ⟨d3, d4⟩ := (e3 _ d (by omega)).mp d2
          obtain ⟨m1, b, m2⟩ := (er_row h M d d0 (by omega)).mp d4
          refine ⟨by omega, b, d, ?_, ⟨⟨c0, c1⟩, ?_⟩, ?_⟩
          · rw [show ((h + 1 : Nat) : Int) - ((M + 1 : Nat) : Int) = (h : Int) - M by omega]
            exact m2
          · rw [show ((h + 1 : Nat) : Int) - ((M + 1 : Nat) : Int) + (M : Int) + 1 = ((h + 1 : Nat) : Int) by omega]
            exact hp
          · rw [show ((h + 1 : Nat) : Int) - ((M + 1 : Nat) : Int) + (M : Int) = (h : Int) by omega]
            exact d3
        · rintro ⟨q1, b, d, q2, q3, q4⟩
          rw [show ((h + 1 : Nat) : Int) - ((M + 1 : Nat) : Int) = (h : Int) - M by omega] at q2 q4
          rw [show (h : Int) - M + (M : Int) = (h : Int) by omega] at q4
          have hd : 0 ≤ d ∧ d < 6 := by
            cases M with
            | zero => exact q2.1 ▸ q2.2.1
            | succ M => exact q2.choose_spec.2.1.1
          have := (er_row h M d hd.1 hd.2).mpr ⟨by omega, b, q2⟩
          have := hm.mpr ⟨d, hd.1, by omega, (e3 _ d (by omega)).mpr ⟨q4, this⟩⟩
          omega
    · rw [if_neg hp]
      constructor
      · intro q
        omega
      · rintro ⟨q1, b, q2⟩
        cases L with
        | zero =>
          obtain ⟨rfl, q3⟩ := q2
          have q4 := q3.2
          rw [show ((h + 1 : Nat) : Int) - ((0 : Nat) : Int) = ((h + 1 : Nat) : Int) by omega] at q4
          exact absurd q4 hp
        | succ M =>
          obtain ⟨d, -, q3, -⟩ := q2
          have q4 := q3.2
          rw [show ((h + 1 : Nat) : Int) - ((M + 1 : Nat) : Int) + (M : Int) + 1 = ((h + 1 : Nat) : Int) by omega] at q4
          exact absurd q4 hp
