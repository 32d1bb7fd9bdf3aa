/-! ROWS OF HOURS as the Model finds them, from the last hour back -/
def gO (a pl : Int → Int) (p fl : Int) : Nat → Int → Int
  | 0, b => if a (b * 24 + 23) = p then 1 else 0
  | k + 1, b => if a (b * 24 + (22 - k)) = p then 1 + mx (fun c => if a (c * 24 + (23 - k)) = p ∧ (fl = 0 ∨ pl (b * 24 + (22 - k)) = pl (c * 24 + (22 - k))) then gO a pl p fl k c else 0) 6 else 0
theorem RwE_in {a pl : Int → Int} {p fl : Int} : ∀ (L : Nat) (h b c : Int), RwE a pl p fl L h b c → inH a p b h
  | 0, h, b, c, q => q.2
  | L + 1, h, b, c, q => RwE_in L h b q.choose q.choose_spec.1
theorem gO_row {a pl : Int → Int} {p fl : Int} : ∀ (k L : Nat) (b : Int), 0 ≤ b → b < 6 → ((L : Int) + 1 ≤ gO a pl p fl k b ↔ L ≤ k ∧ ∃ c, RwE a pl p fl L (23 - (k : Int)) b c)
  | 0, L, b, b0, b1 => by
    have e : gO a pl p fl 0 b = if a (b * 24 + 23) = p then 1 else 0 := rfl
    rw [e]
    constructor
    · intro q
      split at q
      · rename_i hp
        have : L = 0 := by omega
        subst this
        exact ⟨by omega, b, rfl, ⟨b0, b1⟩, hp⟩
      · omega
    · rintro ⟨q1, c, q2⟩
      have : L = 0 := by omega
      subst this
      have q4 : a (b * 24 + 23) = p := q2.2.2
      rw [if_pos q4]
      omega
  | k + 1, L, b, b0, b1 => by
    have e : gO a pl p fl (k + 1) b = if a (b * 24 + (22 - (k : Int))) = p then 1 + mx (fun c => if a (c * 24 + (23 - (k : Int))) = p ∧ (fl = 0 ∨ pl (b * 24 + (22 - (k : Int))) = pl (c * 24 + (22 - (k : Int)))) then gO a pl p fl k c else 0) 6 else 0 := rfl
    have hnn := mx_nn (fun c => if a (c * 24 + (23 - (k : Int))) = p ∧ (fl = 0 ∨ pl (b * 24 + (22 - (k : Int))) = pl (c * 24 + (22 - (k : Int)))) then gO a pl p fl k c else 0) 6
    have eh : 23 - ((k + 1 : Nat) : Int) = 22 - (k : Int) := by omega
    have eh2 : 22 - (k : Int) + 1 = 23 - (k : Int) := by omega
    rw [e, eh]
    by_cases hp : a (b * 24 + (22 - (k : Int))) = p
    · rw [if_pos hp]
      cases L with
      | zero =>
        constructor
        · intro _
          exact ⟨by omega, b, rfl, ⟨b0, b1⟩, hp⟩
        · intro _
          omega
      | succ M =>
        have hm := mx_ge (f := fun c => if a (c * 24 + (23 - (k : Int))) = p ∧ (fl = 0 ∨ pl (b * 24 + (22 - (k : Int))) = pl (c * 24 + (22 - (k : Int)))) then gO a pl p fl k c else 0) (B := (M : Int) + 1) (by omega) 6
        constructor
        · intro q
          obtain ⟨d, d0, d1, d2⟩ := hm.mp (by omega)
          split at d2
          · rename_i hz
            obtain ⟨m1, c, m2⟩ := (gO_row k M d d0 (by omega)).mp d2
            refine ⟨by omega, c, (RwE_front M _ b c).mpr ⟨d, ⟨⟨⟨b0, b1⟩, hp⟩, hz.2⟩, ?_⟩⟩
            rw [eh2]
            exact m2
          · omega
        · rintro ⟨q1, c, q2⟩
          obtain ⟨d, ⟨q3, q4⟩, q5⟩ := (RwE_front M _ b c).mp q2
          rw [eh2] at q5
          have hd := RwE_in M _ d c q5
          have hg := (gO_row k M d hd.1.1 hd.1.2).mpr ⟨by omega, c, q5⟩
          have := hm.mpr ⟨d, hd.1.1, by have := hd.1.2; omega, by
            rw [if_pos ⟨hd.2, q4⟩]
            exact hg⟩
          omega
    · rw [if_neg hp]
      constructor
      · intro q
        omega
      · rintro ⟨q1, c, q2⟩
        exact absurd (RwE_in L _ b c q2).2 hp
def bO (a pl : Int → Int) (p fl : Int) (k : Nat) : Int := mx (gO a pl p fl k) 6
theorem RwE_out {a pl : Int → Int} {p fl : Int} : ∀ (L : Nat) (h b c : Int), RwE a pl p fl L h b c → 0 ≤ c ∧ c < 6
  | 0, h, b, c, q => q.1 ▸ q.2.1
  | L + 1, h, b, c, q => q.choose_spec.2.1.1
theorem bO_row {a pl : Int → Int} {p fl : Int} (k L : Nat) : (L : Int) + 1 ≤ bO a pl p fl k ↔ L ≤ k ∧ ∃ b c, RwE a pl p fl L (23 - (k : Int)) b c := by
  unfold bO
  rw [mx_ge (by omega) 6]
  constructor
  · rintro ⟨j, a1, a2, a3⟩
    obtain ⟨m1, c, m2⟩ := (gO_row k L j a1 (by omega)).mp a3
    exact ⟨m1, j, c, m2⟩
  · rintro ⟨q1, b, c, q2⟩
    have hb := (RwE_in L _ b c q2).1
    exact ⟨b, hb.1, by have := hb.2; omega, (gO_row k L b hb.1 hb.2).mpr ⟨q1, c, q2⟩⟩
theorem Rr_row {a pl : Int → Int} {p fl : Int} (h L : Nat) : (L : Int) + 1 ≤ Rr a pl p fl h ↔ L ≤ h ∧ ∃ b c, RwE a pl p fl L ((h : Int) - L) b c := by
  unfold Rr
  rw [mx_ge (by omega) 6]
  constructor
  · rintro ⟨j, a1, a2, a3⟩
    obtain ⟨m1, b, m2⟩ := (er_row h L j a1 (by omega)).mp a3
    exact ⟨m1, b, j, m2⟩
  · rintro ⟨q1, b, c, q2⟩
    have hc := RwE_out L _ b c q2
    exact ⟨c, hc.1, by have := hc.2; omega, (er_row h L c hc.1 hc.2).mpr ⟨q1, b, q2⟩⟩
/-- a row of L + 1 hours from hour s on, told from both ends -/
theorem both_row {a pl : Int → Int} {p fl : Int} {s L : Nat} (hs : s + L ≤ 23) : (L : Int) + 1 ≤ bO a pl p fl (23 - s) ↔ (L : Int) + 1 ≤ Rr a pl p fl (s + L) := by
  rw [bO_row, Rr_row, show 23 - ((23 - s : Nat) : Int) = (s : Int) by omega, show ((s + L : Nat) : Int) - (L : Int) = (s : Int) by omega]
  exact ⟨fun q => ⟨by omega, q.2⟩, fun q => ⟨by omega, q.2⟩⟩
/-- the Model's loop: the most, and the least hour where it begins -/
def ml (f : Nat → Int) : Nat → Int × Int
  | 0 => (0, -1)
  | k + 1 => (max (f k) (ml f k).1, if 0 < f k ∧ (ml f k).1 ≤ f k then 23 - (k : Int) else (ml f k).2)
theorem ml_p (f : Nat → Int) : ∀ n : Nat, (0 ≤ (ml f n).1 ∧ ∀ k, k < n → f k ≤ (ml f n).1) ∧ ((ml f n).1 = 0 ∧ (ml f n).2 = -1 ∨ 0 < (ml f n).1 ∧ ∃ k, k < n ∧ f k = (ml f n).1 ∧ (ml f n).2 = 23 - (k : Int) ∧ ∀ k', k < k' → k' < n → f k' < (ml f n).1)
  | 0 => ⟨⟨Int.le_refl _, fun k hk => absurd hk (by omega)⟩, Or.inl ⟨rfl, rfl⟩⟩
  | n + 1 => by
    obtain ⟨⟨h0, h1⟩, h2⟩ := ml_p f n
    have e1 : (ml f (n + 1)).1 = max (f n) (ml f n).1 := rfl
    have e2 : (ml f (n + 1)).2 = if 0 < f n ∧ (ml f n).1 ≤ f n then 23 - (n : Int) else (ml f n).2 := rfl
    rw [e1, e2]
    generalize (ml f n).1 = M at *
    generalize (ml f n).2 = F at *
    refine ⟨⟨by clear h2; omega, fun k hk => ?_⟩, ?_⟩
    · clear h2
      by_cases e : k = n
      · rw [e]
        omega
      · have := h1 k (by omega)
        omega
    · by_cases c : 0 < f n ∧ M ≤ f n
      · rw [if_pos c]
        clear h2
        right
        exact ⟨by omega, n, by omega, by omega, rfl, fun k' a b => absurd b (by omega)⟩
      · rw [if_neg c]
        rcases h2 with ⟨m1, m2⟩ | ⟨m1, k, m2, m3, m4, m5⟩
        · left
          exact ⟨by omega, m2⟩
        · right
          refine ⟨by omega, k, by omega, by omega, m4, fun k' a b => ?_⟩
          by_cases e : k' = n
          · rw [e]
            omega
          · have := m5 k' a (by omega)
            omega
theorem lr_p (a pl : Int → Int) (p fl : Int) : ∀ n : Nat, (0 ≤ (lr a pl p fl n).1 ∧ ∀ h, h < n → Rr a pl p fl h ≤ (lr a pl p fl n).1) ∧ ((lr a pl p fl n).1 = 0 ∧ (lr a pl p fl n).2 = -1 ∨ 0 < (lr a pl p fl n).1 ∧ ∃ h : Nat, h < n ∧ Rr a pl p fl h = (lr a pl p fl n).1 ∧ (lr a pl p fl n).2 = h - (lr a pl p fl n).1 + 1 ∧ ∀ h', h' < h → Rr a pl p fl h' < (lr a pl p fl n).1)
  | 0 => ⟨⟨Int.le_refl _, fun k hk => absurd hk (by omega)⟩, Or.inl ⟨rfl, rfl⟩⟩
  | n + 1 => by
    obtain ⟨⟨h0, h1⟩, h2⟩ := lr_p a pl p fl n
    have e : lr a pl p fl (n + 1) = if (lr a pl p fl n).1 < Rr a pl p fl n then (Rr a pl p fl n, n - Rr a pl p fl n + 1) else lr a pl p fl n := rfl
    by_cases c : (lr a pl p fl n).1 < Rr a pl p fl n
    · rw [if_pos c] at e
      rw [e]
      refine ⟨⟨by show 0 ≤ Rr a pl p fl n; omega, fun k hk => ?_⟩, Or.inr ⟨by show 0 < Rr a pl p fl n; omega, n, by omega, rfl, rfl, fun h' hh => ?_⟩⟩
      · show Rr a pl p fl k ≤ Rr a pl p fl n
        by_cases ek : k = n
        · rw [ek]
          omega
        · have := h1 k (by omega)
          omega
      · show Rr a pl p fl h' < Rr a pl p fl n
        have := h1 h' hh
        omega
    · rw [if_neg c] at e
      rw [e]
      refine ⟨⟨h0, fun k hk => ?_⟩, ?_⟩
      · by_cases ek : k = n
        · rw [ek]
          omega
        · exact h1 k (by omega)
      · rcases h2 with h2 | ⟨m1, h, m2, m3, m4, m5⟩
        · exact Or.inl h2
        · exact Or.inr ⟨m1, h, by omega, m3, m4, m5⟩
/-- both loops tell the same -/
theorem ml_lr (a pl : Int → Int) (p fl : Int) : ml (bO a pl p fl) 24 = lr a pl p fl 24 := by
  obtain ⟨⟨a0, a1⟩, a2⟩ := ml_p (bO a pl p fl) 24
  obtain ⟨⟨b0, b1⟩, b2⟩ := lr_p a pl p fl 24
  have hbr : ∀ k, k < 24 → bO a pl p fl k ≤ (k : Int) + 1 := fun k hk => by
    by_cases z : bO a pl p fl k ≤ (k : Int) + 1
    · exact z
    · have := ((bO_row (a := a) (pl := pl) (p := p) (fl := fl) k (k + 1)).mp (by omega)).1
      omega
  have key : (ml (bO a pl p fl) 24).1 = (lr a pl p fl 24).1 ∧ (ml (bO a pl p fl) 24).2 = (lr a pl p fl 24).2 := by
    generalize (ml (bO a pl p fl) 24).1 = M at *
    generalize (ml (bO a pl p fl) 24).2 = F at *
    generalize (lr a pl p fl 24).1 = M' at *
    generalize (lr a pl p fl 24).2 = F' at *
    have up : ∀ k, k < 24 → 0 < bO a pl p fl k → bO a pl p fl k ≤ Rr a pl p fl ((23 - k) + (bO a pl p fl k).toNat - 1) ∧ (23 - k) + (bO a pl p fl k).toNat - 1 < 24 := fun k hk hp => by
      have hr := hbr k hk
      have := both_row (a := a) (pl := pl) (p := p) (fl := fl) (s := 23 - k) (L := (bO a pl p fl k).toNat - 1) (by omega)
      rw [show 23 - (23 - k) = k by omega, show (((bO a pl p fl k).toNat - 1 : Nat) : Int) + 1 = bO a pl p fl k by omega] at this
      have := this.mp (by omega)
      rw [show 23 - k + ((bO a pl p fl k).toNat - 1) = (23 - k) + (bO a pl p fl k).toNat - 1 by omega] at this
      exact ⟨this, by omega⟩
    have down : ∀ h, h < 24 → 0 < Rr a pl p fl h → Rr a pl p fl h ≤ bO a pl p fl (23 - (h + 1 - (Rr a pl p fl h).toNat)) := fun h hk hp => by
      have hr := (Rr_rg a pl p fl h).2
      have := both_row (a := a) (pl := pl) (p := p) (fl := fl) (s := h + 1 - (Rr a pl p fl h).toNat) (L := (Rr a pl p fl h).toNat - 1) (by omega)
      rw [show h + 1 - (Rr a pl p fl h).toNat + ((Rr a pl p fl h).toNat - 1) = h by omega, show (((Rr a pl p fl h).toNat - 1 : Nat) : Int) + 1 = Rr a pl p fl h by omega] at this
      exact this.mpr (by omega)
    have le1 : M ≤ M' := by
      rcases a2 with ⟨m1, m2⟩ | ⟨m1, k, m2, m3, m4, m5⟩
      · omega
      · obtain ⟨u1, u2⟩ := up k m2 (by omega)
        have := b1 _ u2
        omega
    have le2 : M' ≤ M := by
      rcases b2 with ⟨m1, m2⟩ | ⟨m1, h, m2, m3, m4, m5⟩
      · omega
      · have := down h m2 (by omega)
        have := a1 (23 - (h + 1 - (Rr a pl p fl h).toNat)) (by omega)
        omega
    have eM : M = M' := by omega
    subst eM
    refine ⟨rfl, ?_⟩
    rcases a2 with ⟨m1, m2⟩ | ⟨m1, k, m2, m3, m4, m5⟩
    · rcases b2 with ⟨n1, n2⟩ | ⟨n1, h, n2, n3, n4, n5⟩
      · omega
      · omega
    · rcases b2 with ⟨n1, n2⟩ | ⟨n1, h, n2, n3, n4, n5⟩
      · omega
      · obtain ⟨u1, u2⟩ := up k m2 (by omega)
        have hr := (Rr_rg a pl p fl h).2
        have d1 := down h n2 (by omega)
        have hle1 : h ≤ (23 - k) + (bO a pl p fl k).toNat - 1 := Classical.byContradiction fun z => by
          have := n5 _ (Nat.lt_of_not_le z)
          omega
        have hle2 : 23 - (h + 1 - (Rr a pl p fl h).toNat) ≤ k := Classical.byContradiction fun z => by
          have := m5 _ (Nat.lt_of_not_le z) (by omega)
          omega
        omega
  exact Prod.ext key.1 key.2
