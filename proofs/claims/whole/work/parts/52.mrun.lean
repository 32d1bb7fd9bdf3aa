/-! THE MODEL: rows of hours -/
def T_X5_longest : Tr := tO2 22 fun n h s μ Post => ∃ a : Nat, s = a ∧ a < 64 ∧ (0 ≤ h ∧ h ≤ 23) ∧ Post (some (oI (mx (fun b => if a.testBit b.toNat = true then μ 39 0 (b * 24 + h) else 0) 6))) μ
theorem ok_X5_longest : oh_Ok (pg_X5_longest T_X5_isIn T_X5_greater) 5 T_X5_longest := by
  refine tO2_ok fun n x s μ Post G hG hn hx hs hM h => ?_
  obtain rfl := n22 hn
  obtain ⟨a, rfl, ha, hx2, h⟩ := h
  generalize hF : (fun b => if a.testBit b.toNat = true then μ 39 0 (b * 24 + x) else 0) = F at h
  have key : ∀ c, 0 ≤ c → c ≤ 6 → G 5 [some (oR 22 0), some (oI x), some (oI (a : Int)), some (oI (mx F c.toNat)), some (oI c)] [] μ := by
    refine oh_for (F := fun c => 0 ≤ c → c ≤ 6 → G 5 [some (oR 22 0), some (oI x), some (oI (a : Int)), some (oI (mx F c.toNat)), some (oI c)] [] μ) 6 ?_ ?_
    · intro c hc h0 h1
      have e : c = 6 := by omega
      subst e
      refine oh_go hG [(5, 5)] 40 ?_
      exact ⟨fun _ => h, fun q => absurd hc q⟩
    · intro c hc ih h0 h1
      have ih := ih (by omega) (by omega)
      have eF : F c = if a.testBit c.toNat = true then μ 39 0 (c * 24 + x) else 0 := by rw [← hF]
      have hnn := mx_nn F c.toNat
      rw [mx_s _ h0, eF] at ih
      refine oh_go hG [(5, 5)] 40 ?_
      refine And.intro (fun q => absurd q (by omega)) (fun _ => ?_)
      refine And.intro ⟨a, rfl, by omega, by omega, fun w => ?_, fun w => ?_⟩ trivial
      · rw [if_pos w] at ih
        refine And.intro (fun y => absurd y (by decide)) (fun _ => ?_)
        refine And.intro (by omega) ?_
        refine And.intro (by omega) ?_
        refine And.intro (by omega) ?_
        rw [show 24 * c + x = c * 24 + x by omega]
        refine And.intro ?_ trivial
        exact ⟨by omega, ih⟩
      · rw [if_neg w, show max (mx F c.toNat) 0 = mx F c.toNat by omega] at ih
        refine And.intro (fun _ => ?_) (fun y => absurd rfl y)
        exact ⟨by omega, ih⟩
  refine oh_go hG [(5, 5)] 10 ?_
  exact key 0 (by omega) (by omega)
def T_X5_goesOnFrom : Tr := tO3 22 fun n d h s μ Post => ∃ a : Nat, s = a ∧ a < 64 ∧ (0 ≤ d ∧ d ≤ 5) ∧ (0 ≤ h ∧ h ≤ 22) ∧ Post (some (oI (mx (fun b => if a.testBit b.toNat = true ∧ μ 37 0 (b * 24 + h) = μ 37 0 (d * 24 + h) then μ 39 0 (b * 24 + (h + 1)) else 0) 6))) μ
theorem ok_X5_goesOnFrom : oh_Ok (pg_X5_goesOnFrom T_X5_isIn T_X5_greater) 7 T_X5_goesOnFrom := by
  refine tO3_ok fun n d x s μ Post G hG hn hd hx hs hM h => ?_
  obtain rfl := n22 hn
  obtain ⟨a, rfl, ha, hd2, hx2, h⟩ := h
  generalize hF : (fun b => if a.testBit b.toNat = true ∧ μ 37 0 (b * 24 + x) = μ 37 0 (d * 24 + x) then μ 39 0 (b * 24 + (x + 1)) else 0) = F at h
  have key : ∀ c, 0 ≤ c → c ≤ 6 → G 6 [some (oR 22 0), some (oI d), some (oI x), some (oI (a : Int)), some (oI (mx F c.toNat)), some (oI c), none] [] μ := by
    refine oh_for (F := fun c => 0 ≤ c → c ≤ 6 → G 6 [some (oR 22 0), some (oI d), some (oI x), some (oI (a : Int)), some (oI (mx F c.toNat)), some (oI c), none] [] μ) 6 ?_ ?_
    · intro c hc h0 h1
      have e : c = 6 := by omega
      subst e
      refine oh_go hG [(6, 6)] 40 ?_
      exact ⟨fun _ => h, fun q => absurd hc q⟩
    · intro c hc ih h0 h1
      have ih := ih (by omega) (by omega)
      have eF : F c = if a.testBit c.toNat = true ∧ μ 37 0 (c * 24 + x) = μ 37 0 (d * 24 + x) then μ 39 0 (c * 24 + (x + 1)) else 0 := by rw [← hF]
      have hnn := mx_nn F c.toNat
      rw [mx_s _ h0, eF] at ih
      have hno : ¬ (a.testBit c.toNat = true ∧ μ 37 0 (c * 24 + x) = μ 37 0 (d * 24 + x)) → G 59 [some (oR 22 0), some (oI d), some (oI x), some (oI (a : Int)), some (oI (mx F c.toNat)), some (oI c), none] [oI 0] μ := fun z => by
        rw [if_neg z, show max (mx F c.toNat) 0 = mx F c.toNat by omega] at ih
        refine oh_go hG [(6, 6)] 40 ?_
        refine And.intro (fun _ => ?_) (fun y => absurd rfl y)
        exact ⟨by omega, ih⟩
      have hyes : a.testBit c.toNat = true ∧ μ 37 0 (c * 24 + x) = μ 37 0 (d * 24 + x) → G 59 [some (oR 22 0), some (oI d), some (oI x), some (oI (a : Int)), some (oI (mx F c.toNat)), some (oI c), none] [oI 1] μ := fun z => by
        rw [if_pos z] at ih
        refine oh_go hG [(6, 6)] 40 ?_
        refine And.intro (fun y => absurd y (by decide)) (fun _ => ?_)
        refine And.intro (by omega) ?_
        refine And.intro (by omega) ?_
        refine And.intro (by omega) ?_
        refine And.intro (by omega) ?_
        rw [show 24 * c + x + 1 = c * 24 + (x + 1) by omega]
        refine And.intro ?_ trivial
        exact ⟨by omega, ih⟩
      refine oh_go hG [(6, 6), (59, 6)] 40 ?_
      refine And.intro (fun q => absurd q (by omega)) (fun _ => ?_)
      refine And.intro ⟨a, rfl, by omega, by omega, fun w => ?_, fun w => ?_⟩ trivial
      · refine And.intro (fun y => absurd y (by decide)) (fun _ => ?_)
        refine And.intro (fun q => hyes ⟨w, by rw [q]⟩) (fun q => ?_)
        refine And.intro (by omega) ?_
        refine And.intro (by omega) ?_
        refine And.intro (by omega) ?_
        refine And.intro (by omega) ?_
        refine And.intro (by omega) ?_
        refine And.intro (by omega) ?_
        rw [show 24 * c + x = c * 24 + x by omega, show 24 * d + x = d * 24 + x by omega]
        exact And.intro (fun r => hno (fun z => r z.2)) (fun r => hyes ⟨w, Classical.not_not.mp r⟩)
      · refine And.intro (fun _ => hno (fun z => w z.1)) (fun y => absurd rfl y)
  refine oh_go hG [(6, 6)] 10 ?_
  exact key 0 (by omega) (by omega)
