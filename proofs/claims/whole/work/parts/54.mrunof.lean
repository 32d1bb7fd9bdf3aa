/-! THE MODEL: the longest row -/
theorem ahead_z {A : Ab} {p b fl : Int} {k : Nat} (hk : k < 23) (hz : mk (bdB A p (23 - (k : Int))) 6 = 0) : mx (fun c => if aA A (c * 24 + (23 - (k : Int))) = p ∧ (fl = 0 ∨ cP A (A 2 2) (b * 24 + (22 - (k : Int))) = cP A (A 2 2) (c * 24 + (22 - (k : Int)))) then gO (aA A) (cP A (A 2 2)) p fl k c else 0) 6 = 0 := by
  refine Int.le_antisymm (mx_le (by omega) 6 (fun c c0 c1 => ?_)) (mx_nn _ _)
  have hc : 0 ≤ c ∧ c < 6 := ⟨c0, by omega⟩
  have e := bd_bit A p hc (h := 23 - (k : Int)) (by omega)
  rw [hz, Nat.zero_testBit] at e
  rw [if_neg (fun w => absurd (e.mpr w.1) (by decide))]
  omega
def kN (μ μ' : Mem) : Prop := ∀ s n j, ¬ s = 39 → μ' s n j = μ s n j
theorem kN_k {μ μ1 : Mem} (h : kN μ μ1) : kM μ μ1 := fun s n j hs => h s n j (fun z => hs (by unfold scr; omega))
theorem kN_row {μ μ1 : Mem} (h : kN μ μ1) {s : Nat} (hs : ¬ s = 39) (n : Nat) : μ1 s n = μ s n := funext fun j => h s n j hs
theorem Ki_N {A : Ab} {μ μ1 : Mem} (h : Ki A μ) (k : kN μ μ1) : Ki A μ1 := ⟨h.1, RepM_k h.2.1 (kN_k k), RdG_keep h.2.2.1 (by rw [kN_row k (by omega)]) (kN_row k (by omega) 0) (kN_row k (by omega) 0), RdO_keep h.2.2.2 (by rw [kN_row k (by omega)]) (kN_row k (by omega) 0)⟩
def flg (w : Int) : Int := if 1 < w then 1 else 0
/-- the Model's table from hour 23 - k on -/
def Gt (A : Ab) (p fl : Int) (k : Nat) (μ : Mem) : Prop := ∀ j : Nat, j < k → ∀ b, 0 ≤ b → b < 6 → μ 39 0 (b * 24 + (23 - (j : Int))) = gO (aA A) (cP A (A 2 2)) p fl j b
theorem gO_rg (a pl : Int → Int) (p fl : Int) : ∀ (k : Nat) (b : Int), 0 ≤ gO a pl p fl k b
  | 0, b => by
    show 0 ≤ if a (b * 24 + 23) = p then (1 : Int) else 0
    split <;> omega
  | k + 1, b => by
    have hnn := mx_nn (fun c => if a (c * 24 + (23 - (k : Int))) = p ∧ (fl = 0 ∨ pl (b * 24 + (22 - (k : Int))) = pl (c * 24 + (22 - (k : Int)))) then gO a pl p fl k c else 0) 6
    show 0 ≤ if a (b * 24 + (22 - (k : Int))) = p then 1 + mx (fun c => if a (c * 24 + (23 - (k : Int))) = p ∧ (fl = 0 ∨ pl (b * 24 + (22 - (k : Int))) = pl (c * 24 + (22 - (k : Int)))) then gO a pl p fl k c else 0) 6 else 0
    split <;> omega
theorem gO_le {a pl : Int → Int} {p fl : Int} {k : Nat} {b : Int} (hb : 0 ≤ b ∧ b < 6) : gO a pl p fl k b ≤ (k : Int) + 1 := by
  by_cases z : gO a pl p fl k b ≤ (k : Int) + 1
  · exact z
  · have := ((gO_row (a := a) (pl := pl) (p := p) (fl := fl) k (k + 1) b hb.1 hb.2).mp (by omega)).1
    omega
