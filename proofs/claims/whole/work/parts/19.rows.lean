/-! ROWS OF HOURS: the longest that end in an hour -/
def mx (f : Int → Int) : Nat → Int
  | 0 => 0
  | n + 1 => max (mx f n) (f n)
theorem mx_s (f : Int → Int) {c : Int} (h : 0 ≤ c) : mx f (c + 1).toNat = max (mx f c.toNat) (f c) := by
  have e : (c + 1).toNat = c.toNat + 1 := by omega
  rw [e]
  show max (mx f c.toNat) (f (c.toNat : Int)) = _
  have e2 : ((c.toNat : Nat) : Int) = c := by omega
  rw [e2]
theorem mx_nn (f : Int → Int) : ∀ n : Nat, 0 ≤ mx f n
  | 0 => by show (0 : Int) ≤ 0; omega
  | n + 1 => by
    have := mx_nn f n
    show 0 ≤ max (mx f n) (f n)
    omega
theorem mx_le {f : Int → Int} {B : Int} (hB : 0 ≤ B) : ∀ n : Nat, (∀ j : Int, 0 ≤ j → j < n → f j ≤ B) → mx f n ≤ B
  | 0, _ => hB
  | n + 1, h => by
    have := mx_le hB n (fun j a b => h j a (by omega))
    have h2 := h n (by omega) (by omega)
    show max (mx f n) (f n) ≤ B
    omega
theorem mx_congr {f g : Int → Int} : ∀ (n : Nat), (∀ j : Int, 0 ≤ j → j < n → f j = g j) → mx f n = mx g n
  | 0, _ => rfl
  | n + 1, h => by
    show max (mx f n) (f n) = max (mx g n) (g n)
    rw [mx_congr n (fun j a b => h j a (by omega)), h n (by omega) (by omega)]
/-- of the rows that end ahead of hour h (r) those from which body b goes on -/
def ahd (pl : Int → Int) (fl : Int) (r : Int → Int) (b h : Int) (fr : Int) : Int := if fl = 0 ∨ pl (fr * 24 + (h - 1)) = pl (b * 24 + (h - 1)) then r fr else 0
def ahm (pl : Int → Int) (fl : Int) (r : Int → Int) (b h : Int) : Int := if 0 < h then mx (ahd pl fl r b h) 6 else 0
def T_X0_rowAhead : Tr := tO3 0 fun n b h fl μ Post => ((0 ≤ b ∧ b ≤ 5) ∧ (0 ≤ h ∧ h ≤ 23) ∧ (0 < h → ∀ j, 0 ≤ j → j < 6 → 0 ≤ μ 6 n j ∧ μ 6 n j ≤ 24)) ∧ Post (some (oI (ahm (μ 3 n) fl (μ 6 n) b h))) μ
theorem ok_X0_rowAhead : oh_Ok (pg_X0_rowAhead T_X4_cell T_J9_max_7cf53) 6 T_X0_rowAhead := by
  refine tO3_ok fun n b h fl μ Post G hG hn hb hh hf hM q => ?_
  obtain ⟨⟨hb0, hh0, hr⟩, q⟩ := q
  unfold ahm at q
  by_cases hp : 0 < h
  · rw [if_pos hp] at q
    have hr := hr hp
    have key : ∀ c, 0 ≤ c → c ≤ 6 → G 6 [some (oR 0 n), some (oI b), some (oI h), some (oI fl), some (oI (mx (ahd (μ 3 n) fl (μ 6 n) b h) c.toNat)), some (oI c)] [] μ := by
      refine oh_for (F := fun c => 0 ≤ c → c ≤ 6 → G 6 [some (oR 0 n), some (oI b), some (oI h), some (oI fl), some (oI (mx (ahd (μ 3 n) fl (μ 6 n) b h) c.toNat)), some (oI c)] [] μ) 6 ?_ ?_
      · intro c hc h0 h1
        have e : c = 6 := by omega
        subst e
        refine oh_go hG [(6, 6)] 40 ?_
        exact ⟨fun _ => q, fun x => absurd hc x⟩
      · intro c hc ih h0 h1
        have ih := ih (by omega) (by omega)
        rw [mx_s _ h0] at ih
        have hnn := mx_nn (ahd (μ 3 n) fl (μ 6 n) b h) c.toNat
        generalize mx (ahd (μ 3 n) fl (μ 6 n) b h) c.toNat = S at ih hnn
        unfold ahd at ih
        have take : (fl = 0 ∨ μ 3 n (c * 24 + (h - 1)) = μ 3 n (b * 24 + (h - 1))) → G 49 [some (oR 0 n), some (oI b), some (oI h), some (oI fl), some (oI S), some (oI c)] [] μ := fun hc2 => by
          rw [if_pos hc2] at ih
          refine oh_go hG [(6, 6)] 40 ?_
          refine And.intro (by omega) ?_
          refine And.intro ?_ trivial
          exact ⟨by omega, ih⟩
        refine oh_go hG [(6, 6), (49, 6)] 40 ?_
        refine And.intro (fun x => absurd x (by omega)) (fun _ => ?_)
        refine And.intro (fun x => absurd hp (by omega)) (fun _ => ?_)
        refine And.intro (fun x => take (Or.inl x)) (fun x => ?_)
        refine And.intro (by omega) ?_
        refine And.intro ?_ trivial
        refine And.intro (by omega) ?_
        refine And.intro (by omega) ?_
        refine And.intro (by omega) ?_
        refine And.intro ?_ trivial
        refine And.intro (by omega) ?_
        refine And.intro (by omega) ?_
        refine And.intro (fun y => ?_) (fun y => take (Or.inr (Classical.not_not.mp y)))
        rw [if_neg (fun z => by rcases z with z | z; exact x z; exact y z), Int.max_eq_left hnn] at ih
        exact ⟨by omega, ih⟩
    refine oh_go hG [(6, 6)] 5 ?_
    exact key 0 (by omega) (by omega)
  · rw [if_neg hp] at q
    refine oh_go hG [] 40 ?_
    exact ⟨fun x => absurd x (by decide), fun _ => ⟨fun _ => q, fun x => absurd (by omega) x⟩⟩
/-- the rows as they go on with hour h -/
def rnw (a pl : Int → Int) (p fl : Int) (r : Int → Int) (h b : Int) : Int := if a (b * 24 + h) = p then 1 + ahm pl fl r b h else 0
def T_X0_rowTo : Tr := tO3 0 fun n p h fl μ Post => ((0 ≤ h ∧ h ≤ 23) ∧ (0 < h → ∀ j, 0 ≤ j → j < 6 → 0 ≤ μ 5 n j ∧ μ 5 n j ≤ 24)) ∧
  ∀ μ', (∀ s' n' j', ¬ ((s' = 5 ∨ s' = 6) ∧ n' = n) → μ' s' n' j' = μ s' n' j') → (∀ b, 0 ≤ b → b < 6 → μ' 5 n b = rnw (μ 1 n) (μ 3 n) p fl (μ 5 n) h b) → Post (some (oI (mx (rnw (μ 1 n) (μ 3 n) p fl (μ 5 n) h) 6))) μ'
theorem ahm_rg {pl : Int → Int} {fl : Int} {r : Int → Int} {b h : Int} (hr : 0 < h → ∀ j, 0 ≤ j → j < 6 → 0 ≤ r j ∧ r j ≤ 24) : 0 ≤ ahm pl fl r b h ∧ ahm pl fl r b h ≤ 24 := by
  unfold ahm
  split
  · rename_i hp
    refine ⟨mx_nn _ _, mx_le (by omega) 6 (fun j a c => ?_)⟩
    have := hr hp j a (by omega)
    unfold ahd
    split <;> omega
  · omega
theorem ahm_congr {pl : Int → Int} {fl : Int} {r r' : Int → Int} {b h : Int} (hr : ∀ j, 0 ≤ j → j < 6 → r j = r' j) : ahm pl fl r b h = ahm pl fl r' b h := by
  unfold ahm
  rw [mx_congr 6 (fun j a c => ?_)]
  unfold ahd
  rw [hr j a (by omega)]
theorem ok_X0_rowTo : oh_Ok (pg_X0_rowTo T_cp T_X4_cell T_X0_rowAhead T_J9_max_7cf53) 7 T_X0_rowTo := by
  refine tO3_ok fun n p h fl μ Post G hG hn hp hh hf hM q => ?_
  obtain ⟨⟨hh0, hr⟩, q⟩ := q
  have key : ∀ c, 0 ≤ c → c ≤ 6 → ∀ μ', (∀ s' n' j', ¬ ((s' = 5 ∨ s' = 6) ∧ n' = n) → μ' s' n' j' = μ s' n' j') → (∀ j, 0 ≤ j → j < 6 → μ' 6 n j = μ 5 n j) → (∀ b, 0 ≤ b → b < c → μ' 5 n b = rnw (μ 1 n) (μ 3 n) p fl (μ 5 n) h b) →
      G 21 [some (oR 0 n), some (oI p), some (oI h), some (oI fl), some (oI (mx (rnw (μ 1 n) (μ 3 n) p fl (μ 5 n) h) c.toNat)), some (oI c), none] [] μ' := by
    refine oh_for (F := fun c => 0 ≤ c → c ≤ 6 → ∀ μ', (∀ s' n' j', ¬ ((s' = 5 ∨ s' = 6) ∧ n' = n) → μ' s' n' j' = μ s' n' j') → (∀ j, 0 ≤ j → j < 6 → μ' 6 n j = μ 5 n j) → (∀ b, 0 ≤ b → b < c → μ' 5 n b = rnw (μ 1 n) (μ 3 n) p fl (μ 5 n) h b) →
      G 21 [some (oR 0 n), some (oI p), some (oI h), some (oI fl), some (oI (mx (rnw (μ 1 n) (μ 3 n) p fl (μ 5 n) h) c.toNat)), some (oI c), none] [] μ') 6 ?_ ?_
    · intro c hc h0 h1 μ' hof h6 hw
      have e : c = 6 := by omega
      subst e
      refine oh_go hG [(21, 6)] 40 ?_
      exact ⟨fun _ => q μ' hof hw, fun x => absurd hc x⟩
    · intro c hc ih h0 h1 μ' hof h6 hw
      have e1 : μ' 1 n = μ 1 n := funext fun j => hof _ _ _ (fun q => by omega)
      have e3 : μ' 3 n = μ 3 n := funext fun j => hof _ _ _ (fun q => by omega)
      have har := ahm_rg (pl := μ 3 n) (fl := fl) (r := μ 5 n) (b := c) (h := h) hr
      have step : ∀ v, v = rnw (μ 1 n) (μ 3 n) p fl (μ 5 n) h c → G 75 [some (oR 0 n), some (oI p), some (oI h), some (oI fl), some (oI (mx (rnw (μ 1 n) (μ 3 n) p fl (μ 5 n) h) c.toNat)), some (oI c), none] [oI v, oI c, oR 5 n] μ' := fun v hv => by
        refine oh_go hG [(21, 6)] 40 ?_
        refine And.intro (by omega) ?_
        refine And.intro (by omega) ?_
        refine And.intro ?_ trivial
        rw [oh_up_s, hv]
        refine And.intro (by omega) ?_
        rw [← mx_s _ h0]
        refine ih (by omega) (by omega) _ (fun s' n' j' g => ?_) (fun j a b => ?_) (fun j a b => ?_)
        · rw [oh_up_o (fun q => g ⟨by omega, q.2.1⟩)]
          exact hof s' n' j' g
        · rw [oh_up_o (fun q => absurd q.1 (by decide))]
          exact h6 j a b
        · by_cases e : j = c
          · rw [e, oh_up_s]
          · rw [oh_up_o (fun q => e q.2.2)]
            exact hw j a (by omega)
      unfold rnw at step
      refine oh_go hG [(21, 6), (75, 6)] 60 ?_
      refine And.intro (fun x => absurd x (by omega)) (fun _ => ?_)
      refine And.intro ?_ trivial
      refine And.intro (by omega) ?_
      refine And.intro (by omega) ?_
      rw [e1]
      refine And.intro (fun x => ?_) (fun x => ?_)
      · refine And.intro (fun _ => step _ (by rw [if_neg x])) (fun y => absurd rfl y)
      · refine And.intro (fun y => absurd y (by decide)) (fun _ => ?_)
        refine And.intro ?_ trivial
        refine And.intro ⟨⟨h0, by omega⟩, hh0, fun z j a b => by rw [h6 j a b]; exact hr z j a b⟩ ?_
        rw [e3, ahm_congr (r := μ' 6 n) (r' := μ 5 n) h6]
        refine And.intro (by omega) ?_
        exact step _ (by rw [if_pos (Classical.not_not.mp x)])
  refine oh_go hG [(21, 6)] 40 ?_
  refine And.intro ?_ trivial
  refine ⟨_, _, _, _, _, _, _, 6, 6, rfl, rfl, rfl, by omega, by omega, by omega, by omega, by omega, ?_⟩
  refine key 0 (by omega) (by omega) _ (fun s' n' j' g => ?_) (fun j a b => ?_) (fun b a c => absurd c (by omega))
  · unfold oh_cp
    rw [if_neg (fun q => g ⟨by omega, q.2.1⟩)]
  · unfold oh_cp
    rw [if_pos ⟨rfl, rfl, by omega, by omega⟩]
    congr 1
    omega
/-- the rows that end in hour h, body by body; the longest of them -/
def er (a pl : Int → Int) (p fl : Int) : Nat → Int → Int
  | 0 => rnw a pl p fl (fun _ => 0) 0
  | h + 1 => rnw a pl p fl (er a pl p fl h) ((h + 1 : Nat) : Int)
def Rr (a pl : Int → Int) (p fl : Int) (h : Nat) : Int := mx (er a pl p fl h) 6
theorem er_rg (a pl : Int → Int) (p fl : Int) : ∀ (h : Nat) (b : Int), 0 ≤ er a pl p fl h b ∧ er a pl p fl h b ≤ h + 1
  | 0, b => by
    show 0 ≤ rnw a pl p fl (fun _ => 0) 0 b ∧ rnw a pl p fl (fun _ => 0) 0 b ≤ _
    unfold rnw
    have : ahm pl fl (fun _ => 0) b 0 = 0 := rfl
    rw [this]
    split <;> omega
  | h + 1, b => by
    show 0 ≤ rnw a pl p fl (er a pl p fl h) ((h + 1 : Nat) : Int) b ∧ rnw a pl p fl (er a pl p fl h) ((h + 1 : Nat) : Int) b ≤ _
    have h1 : 0 ≤ ahm pl fl (er a pl p fl h) b ((h + 1 : Nat) : Int) ∧ ahm pl fl (er a pl p fl h) b ((h + 1 : Nat) : Int) ≤ h + 1 := by
      unfold ahm
      split
      · refine ⟨mx_nn _ _, mx_le (by omega) 6 (fun j _ _ => ?_)⟩
        have := er_rg a pl p fl h j
        unfold ahd
        split <;> omega
      · omega
    unfold rnw
    split <;> omega
theorem rnw_congr {a pl : Int → Int} {p fl : Int} {r r' : Int → Int} {h b : Int} (hr : 0 < h → ∀ j, 0 ≤ j → j < 6 → r j = r' j) : rnw a pl p fl r h b = rnw a pl p fl r' h b := by
  unfold rnw
  by_cases hp : 0 < h
  · rw [ahm_congr (hr hp)]
  · unfold ahm
    rw [if_neg hp, if_neg hp]
/-- the longest row that ends ahead of hour k, and where the first such begins -/
def lr (a pl : Int → Int) (p fl : Int) : Nat → Int × Int
  | 0 => (0, -1)
  | k + 1 => if (lr a pl p fl k).1 < Rr a pl p fl k then (Rr a pl p fl k, k - Rr a pl p fl k + 1) else lr a pl p fl k
theorem Rr_rg (a pl : Int → Int) (p fl : Int) (h : Nat) : 0 ≤ Rr a pl p fl h ∧ Rr a pl p fl h ≤ h + 1 := ⟨mx_nn _ _, mx_le (by omega) 6 (fun j _ _ => (er_rg a pl p fl h j).2)⟩
theorem lr_rg (a pl : Int → Int) (p fl : Int) : ∀ k : Nat, 0 ≤ (lr a pl p fl k).1 ∧ (lr a pl p fl k).1 ≤ k
  | 0 => by show (0 : Int) ≤ 0 ∧ (0 : Int) ≤ 0; omega
  | k + 1 => by
    have h1 := lr_rg a pl p fl k
    have h2 := Rr_rg a pl p fl k
    show 0 ≤ (if (lr a pl p fl k).1 < Rr a pl p fl k then (Rr a pl p fl k, k - Rr a pl p fl k + 1) else lr a pl p fl k).1 ∧ _
    split
    · show 0 ≤ Rr a pl p fl k ∧ (if (lr a pl p fl k).1 < Rr a pl p fl k then (Rr a pl p fl k, k - Rr a pl p fl k + 1) else lr a pl p fl k).1 ≤ _
      split
      · show _ ∧ Rr a pl p fl k ≤ _
        omega
      · omega
    · show _ ∧ (if (lr a pl p fl k).1 < Rr a pl p fl k then (Rr a pl p fl k, k - Rr a pl p fl k + 1) else lr a pl p fl k).1 ≤ _
      split
      · show _ ∧ Rr a pl p fl k ≤ _
        omega
      · omega
/-- rowTo at hour c, with the rows as they stand behind the hours ahead -/
theorem row_at {a pl : Int → Int} {p fl : Int} {r : Int → Int} {c : Int} (h0 : 0 ≤ c) (hr : 0 < c → ∀ b, 0 ≤ b → b < 6 → r b = er a pl p fl (c - 1).toNat b) : rnw a pl p fl r c = er a pl p fl c.toNat := by
  funext b
  by_cases hp : 0 < c
  · have e : c.toNat = (c - 1).toNat + 1 := by omega
    rw [e]
    show _ = rnw a pl p fl (er a pl p fl (c - 1).toNat) (((c - 1).toNat + 1 : Nat) : Int) b
    have e2 : (((c - 1).toNat + 1 : Nat) : Int) = c := by omega
    rw [e2]
    exact rnw_congr (fun _ => hr hp)
  · have e : c = 0 := by omega
    subst e
    exact rnw_congr (fun z => absurd z (by decide))
def rowsOff (n : Nat) (μ μ' : Mem) : Prop := ∀ s' n' j', ¬ ((s' = 5 ∨ s' = 6) ∧ n' = n) → μ' s' n' j' = μ s' n' j'
def T_X0_longestRow : Tr := tO2 0 fun n p fl μ Post => ∀ μ', rowsOff n μ μ' → Post (some (oI (lr (μ 1 n) (μ 3 n) p fl 24).1)) μ'
theorem lr_s (a pl : Int → Int) (p fl : Int) {c : Int} (h : 0 ≤ c) : lr a pl p fl (c + 1).toNat = if (lr a pl p fl c.toNat).1 < Rr a pl p fl c.toNat then (Rr a pl p fl c.toNat, c - Rr a pl p fl c.toNat + 1) else lr a pl p fl c.toNat := by
  have e : (c + 1).toNat = c.toNat + 1 := by omega
  rw [e]
  show (if (lr a pl p fl c.toNat).1 < Rr a pl p fl c.toNat then (Rr a pl p fl c.toNat, (c.toNat : Int) - Rr a pl p fl c.toNat + 1) else lr a pl p fl c.toNat) = _
  have e2 : ((c.toNat : Nat) : Int) = c := by omega
  rw [e2]
theorem ok_X0_longestRow : oh_Ok (pg_X0_longestRow T_X0_rowTo T_J9_max_7cf53) 5 T_X0_longestRow := by
  refine tO2_ok fun n p fl μ Post G hG hn hp hf hM q => ?_
  have key : ∀ c, 0 ≤ c → c ≤ 24 → ∀ μ', rowsOff n μ μ' → (0 < c → ∀ b, 0 ≤ b → b < 6 → μ' 5 n b = er (μ 1 n) (μ 3 n) p fl (c - 1).toNat b) → G 5 [some (oR 0 n), some (oI p), some (oI fl), some (oI (lr (μ 1 n) (μ 3 n) p fl c.toNat).1), some (oI c)] [] μ' := by
    refine oh_for (F := fun c => 0 ≤ c → c ≤ 24 → ∀ μ', rowsOff n μ μ' → (0 < c → ∀ b, 0 ≤ b → b < 6 → μ' 5 n b = er (μ 1 n) (μ 3 n) p fl (c - 1).toNat b) → G 5 [some (oR 0 n), some (oI p), some (oI fl), some (oI (lr (μ 1 n) (μ 3 n) p fl c.toNat).1), some (oI c)] [] μ') 24 ?_ ?_
    · intro c hc h0 h1 μ' hof hw
      have e : c = 24 := by omega
      subst e
      refine oh_go hG [(5, 5)] 40 ?_
      exact ⟨fun _ => q μ' hof, fun x => absurd hc x⟩
    · intro c hc ih h0 h1 μ' hof hw
      have e1 : μ' 1 n = μ 1 n := funext fun j => hof _ _ _ (fun q => by omega)
      have e3 : μ' 3 n = μ 3 n := funext fun j => hof _ _ _ (fun q => by omega)
      have ih := ih (by omega) (by omega)
      have hl := lr_rg (μ 1 n) (μ 3 n) p fl c.toNat
      have hR := Rr_rg (μ 1 n) (μ 3 n) p fl c.toNat
      refine oh_go hG [(5, 5)] 40 ?_
      refine And.intro (fun x => absurd x (by omega)) (fun _ => ?_)
      refine And.intro ?_ trivial
      refine And.intro ⟨⟨h0, by omega⟩, fun z j a b => ?_⟩ (fun μ2 g1 g2 => ?_)
      · have := er_rg (μ 1 n) (μ 3 n) p fl (c - 1).toNat j
        rw [hw z j a b]
        omega
      rw [e1, e3, row_at h0 hw] at g2 ⊢
      refine And.intro ?_ trivial
      refine And.intro (by omega) ?_
      have em : max (lr (μ 1 n) (μ 3 n) p fl c.toNat).1 (mx (er (μ 1 n) (μ 3 n) p fl c.toNat) 6) = (lr (μ 1 n) (μ 3 n) p fl (c + 1).toNat).1 := by
        rw [lr_s _ _ _ _ h0]
        show max _ (Rr _ _ _ _ _) = _
        split
        · show max _ _ = Rr _ _ _ _ _
          omega
        · omega
      rw [em]
      refine ih μ2 (fun s' n' j' g => ?_) (fun _ b a z => ?_)
      · rw [g1 s' n' j' g]
        exact hof s' n' j' g
      · have e : (c + 1 - 1).toNat = c.toNat := by omega
        rw [e]
        exact g2 b a z
  refine oh_go hG [(5, 5)] 5 ?_
  exact key 0 (by omega) (by omega) μ (fun _ _ _ _ => rfl) (fun z => absurd z (by omega))
def T_X0_firstOfRow : Tr := tO2 0 fun n p fl μ Post => ∀ μ', rowsOff n μ μ' → Post (some (oI (lr (μ 1 n) (μ 3 n) p fl 24).2)) μ'
theorem ok_X0_firstOfRow : oh_Ok (pg_X0_firstOfRow T_X0_rowTo) 7 T_X0_firstOfRow := by
  refine tO2_ok fun n p fl μ Post G hG hn hp hf hM q => ?_
  have key : ∀ c, 0 ≤ c → c ≤ 24 → ∀ μ', rowsOff n μ μ' → (0 < c → ∀ b, 0 ≤ b → b < 6 → μ' 5 n b = er (μ 1 n) (μ 3 n) p fl (c - 1).toNat b) → G 8 [some (oR 0 n), some (oI p), some (oI fl), some (oI (lr (μ 1 n) (μ 3 n) p fl c.toNat).1), some (oI (lr (μ 1 n) (μ 3 n) p fl c.toNat).2), some (oI c), none] [] μ' := by
    refine oh_for (F := fun c => 0 ≤ c → c ≤ 24 → ∀ μ', rowsOff n μ μ' → (0 < c → ∀ b, 0 ≤ b → b < 6 → μ' 5 n b = er (μ 1 n) (μ 3 n) p fl (c - 1).toNat b) → G 8 [some (oR 0 n), some (oI p), some (oI fl), some (oI (lr (μ 1 n) (μ 3 n) p fl c.toNat).1), some (oI (lr (μ 1 n) (μ 3 n) p fl c.toNat).2), some (oI c), none] [] μ') 24 ?_ ?_
    · intro c hc h0 h1 μ' hof hw
      have e : c = 24 := by omega
      subst e
      refine oh_go hG [(8, 6)] 40 ?_
      exact ⟨fun _ => q μ' hof, fun x => absurd hc x⟩
    · intro c hc ih h0 h1 μ' hof hw
      have e1 : μ' 1 n = μ 1 n := funext fun j => hof _ _ _ (fun q => by omega)
      have e3 : μ' 3 n = μ 3 n := funext fun j => hof _ _ _ (fun q => by omega)
      have ih := ih (by omega) (by omega)
      have hl := lr_rg (μ 1 n) (μ 3 n) p fl c.toNat
      have hR := Rr_rg (μ 1 n) (μ 3 n) p fl c.toNat
      refine oh_go hG [(8, 6)] 60 ?_
      refine And.intro (fun x => absurd x (by omega)) (fun _ => ?_)
      refine And.intro ?_ trivial
      refine And.intro ⟨⟨h0, by omega⟩, fun z j a b => ?_⟩ (fun μ2 g1 g2 => ?_)
      · have := er_rg (μ 1 n) (μ 3 n) p fl (c - 1).toNat j
        rw [hw z j a b]
        omega
      rw [e1, e3, row_at h0 hw] at g2 ⊢
      have hnx : ∀ b, 0 ≤ b → b < 6 → μ2 5 n b = er (μ 1 n) (μ 3 n) p fl (c + 1 - 1).toNat b := fun b a z => by
        have e : (c + 1 - 1).toNat = c.toNat := by omega
        rw [e]
        exact g2 b a z
      have ih := ih μ2 (fun s' n' j' g => by rw [g1 s' n' j' g]; exact hof s' n' j' g) (fun _ => hnx)
      rw [lr_s _ _ _ _ h0] at ih
      have eR : mx (er (μ 1 n) (μ 3 n) p fl c.toNat) 6 = Rr (μ 1 n) (μ 3 n) p fl c.toNat := rfl
      rw [eR]
      refine And.intro (fun x => ?_) (fun x => ?_)
      · rw [if_neg (by omega)] at ih
        exact ⟨by omega, ih⟩
      · rw [if_pos (by omega)] at ih
        exact ⟨by omega, by omega, by omega, ih⟩
  refine oh_go hG [(8, 6)] 8 ?_
  exact key 0 (by omega) (by omega) μ (fun _ _ _ _ => rfl) (fun z => absurd z (by omega))
