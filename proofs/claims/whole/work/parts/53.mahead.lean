/-! THE MODEL: what lies ahead of an hour, by its table -/
noncomputable def aA (A : Ab) : Int → Int := Aw (aw A) (A 2 2)
theorem aA_at (A : Ab) {b h : Int} (hh : 0 ≤ h ∧ h ≤ 23) : aA A (b * 24 + h) = an A b h := by
  unfold aA
  rw [Aw_at _ _ hh]
  rfl
theorem bd_bit (A : Ab) (p : Int) {c h : Int} (hc : 0 ≤ c ∧ c < 6) (hh : 0 ≤ h ∧ h ≤ 23) : (mk (bdB A p h) 6).testBit c.toNat = true ↔ aA A (c * 24 + h) = p := by
  have e : ((c.toNat : Nat) : Int) = c := by omega
  rw [mk_bit, decide_eq_true (by omega : c.toNat < 6), Bool.true_and, e, aA_at A hh]
  unfold bdB
  rw [decide_eq_true_eq]
theorem ahead_1 {A : Ab} {p b : Int} {k : Nat} {g q : Int → Int} (hk : k < 23) (hb : 0 ≤ b ∧ b < 6) (hg : ∀ c, 0 ≤ c → c < 6 → g (c * 24 + (23 - (k : Int))) = gO (aA A) (cP A (A 2 2)) p 1 k c) (hq : ∀ c, 0 ≤ c → c < 144 → q c = cP A (A 2 2) c) : mx (fun c => if (mk (bdB A p (23 - (k : Int))) 6).testBit c.toNat = true ∧ q (c * 24 + (22 - (k : Int))) = q (b * 24 + (22 - (k : Int))) then g (c * 24 + (22 - (k : Int) + 1)) else 0) 6 = mx (fun c => if aA A (c * 24 + (23 - (k : Int))) = p ∧ ((1 : Int) = 0 ∨ cP A (A 2 2) (b * 24 + (22 - (k : Int))) = cP A (A 2 2) (c * 24 + (22 - (k : Int)))) then gO (aA A) (cP A (A 2 2)) p 1 k c else 0) 6 := mx_congr 6 (fun c c0 c1 => by
  have hc : 0 ≤ c ∧ c < 6 := ⟨c0, by omega⟩
  have e := bd_bit A p hc (h := 23 - (k : Int)) (by omega)
  rw [hq _ (by omega) (by omega), hq _ (by omega) (by omega), show 22 - (k : Int) + 1 = 23 - (k : Int) by omega, hg c hc.1 hc.2]
  by_cases z : aA A (c * 24 + (23 - (k : Int))) = p ∧ cP A (A 2 2) (c * 24 + (22 - (k : Int))) = cP A (A 2 2) (b * 24 + (22 - (k : Int)))
  · rw [if_pos ⟨e.mpr z.1, z.2⟩, if_pos ⟨z.1, Or.inr z.2.symm⟩]
  · rw [if_neg (fun w => z ⟨e.mp w.1, w.2⟩), if_neg (fun w => z ⟨w.1, by
      rcases w.2 with w2 | w2
      · exact absurd w2 (by decide)
      · exact w2.symm⟩)])
theorem ahead_0 {A : Ab} {p b : Int} {k : Nat} {g : Int → Int} (hk : k < 23) (hg : ∀ c, 0 ≤ c → c < 6 → g (c * 24 + (23 - (k : Int))) = gO (aA A) (cP A (A 2 2)) p 0 k c) : mx (fun c => if (mk (bdB A p (23 - (k : Int))) 6).testBit c.toNat = true then g (c * 24 + (23 - (k : Int))) else 0) 6 = mx (fun c => if aA A (c * 24 + (23 - (k : Int))) = p ∧ ((0 : Int) = 0 ∨ cP A (A 2 2) (b * 24 + (22 - (k : Int))) = cP A (A 2 2) (c * 24 + (22 - (k : Int)))) then gO (aA A) (cP A (A 2 2)) p 0 k c else 0) 6 := mx_congr 6 (fun c c0 c1 => by
  have hc : 0 ≤ c ∧ c < 6 := ⟨c0, by omega⟩
  have e := bd_bit A p hc (h := 23 - (k : Int)) (by omega)
  rw [hg c hc.1 hc.2]
  by_cases z : aA A (c * 24 + (23 - (k : Int))) = p
  · rw [if_pos (e.mpr z), if_pos ⟨z, Or.inl rfl⟩]
  · rw [if_neg (fun w => z (e.mp w)), if_neg (fun w => z w.1)])
