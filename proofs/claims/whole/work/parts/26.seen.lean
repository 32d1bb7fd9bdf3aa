/-! THE FACE: TRADE of two cells, SUSPECTS, LIKELY laws -/
def bg (f : Int → Int) (one h two o : Int) : Bool := decide (f (one * 24 + h) < f (one * 24 + o) ∧ f (two * 24 + o) < f (two * 24 + h))
def T_X4_bothGain : Tr := tO4 13 fun n one h two o μ Post => ((0 ≤ one ∧ one ≤ 5) ∧ (0 ≤ h ∧ h ≤ 23) ∧ (0 ≤ two ∧ two ≤ 5) ∧ 0 ≤ o ∧ o ≤ 23) ∧ (bg (μ 16 0) one h two o = true → Post (some (oI 1)) μ) ∧ (¬ bg (μ 16 0) one h two o = true → Post (some (oI 0)) μ)
theorem ok_X4_bothGain : oh_Ok (pg_X4_bothGain T_X4_cell) 5 T_X4_bothGain := by
  refine tO4_ok fun n one hh two oo μ Post G hG hn h1 h2 h3 h4 hM h => ?_
  obtain rfl := n13 hn
  obtain ⟨⟨r1, r2, r3, r4⟩, ht, hf⟩ := h
  unfold bg at ht hf
  rw [decide_eq_true_eq] at ht hf
  refine oh_go hG [] 60 ?_
  refine And.intro ⟨by omega, ?_⟩ trivial
  refine And.intro (by omega) ?_
  refine And.intro ⟨by omega, ?_⟩ trivial
  refine And.intro (by omega) ?_
  refine And.intro (fun q => ?_) (fun q => ?_)
  · have w := hf (fun z => absurd z.1 (by omega))
    exact ⟨by omega, w⟩
  refine And.intro ⟨by omega, ?_⟩ trivial
  refine And.intro (by omega) ?_
  refine And.intro ⟨by omega, ?_⟩ trivial
  refine And.intro (by omega) ?_
  exact And.intro (fun z => ⟨by omega, hf (fun w => absurd w.2 (by omega))⟩) (fun z => ⟨by omega, ht ⟨by omega, by omega⟩⟩)
noncomputable def s_trade (A : Ab) (a h b o : Int) : Int × Ab := if ¬ ((0 ≤ a ∧ a < 6) ∧ 0 ≤ h ∧ h < 24) ∨ ¬ ((0 ≤ b ∧ b < 6) ∧ 0 ≤ o ∧ o < 24) then (-2, A) else if aw A (a * 24 + h) = aw A (b * 24 + o) then (-3, A) else (if bg (A 4) (aw A (a * 24 + h)) h (aw A (b * 24 + o)) o then 1 else 0, A)
def T_X4_trade : Tr := tC4 s_trade
theorem ok_X4_trade : oh_Ok (pg_X4_trade T_X4_isCell T_X1_owner T_X4_bothGain) 7 T_X4_trade := by
  refine tO4_ok fun n a hh b oo μ Post G hG hn h1 h2 h3 h4 hM h => ?_
  obtain rfl := n13 hn
  obtain ⟨A, hR, h⟩ := h
  have hbad : ¬ ((0 ≤ a ∧ a < 6) ∧ 0 ≤ hh ∧ hh < 24) ∨ ¬ ((0 ≤ b ∧ b < 6) ∧ 0 ≤ oo ∧ oo < 24) → Post (some (oI (-2))) μ := fun x => by
    have e : s_trade A a hh b oo = (-2, A) := if_pos x
    rw [e] at h
    exact h μ hR FrC_rf
  refine oh_go hG [] 60 ?_
  refine And.intro ?_ trivial
  refine And.intro (fun x => ?_) (fun x => ⟨fun _ => hbad (Or.inl x), fun y => absurd rfl y⟩)
  refine And.intro (fun y => absurd y (by decide)) (fun _ => ?_)
  refine And.intro ?_ trivial
  refine And.intro (fun z => ?_) (fun z => ⟨fun y => absurd rfl y, fun _ => hbad (Or.inr z)⟩)
  refine And.intro (fun _ => ?_) (fun y => absurd (by decide) y)
  have e : s_trade A a hh b oo = (if aw A (a * 24 + hh) = aw A (b * 24 + oo) then (-3, A) else (if bg (A 4) (aw A (a * 24 + hh)) hh (aw A (b * 24 + oo)) oo then 1 else 0, A)) := if_neg (by omega)
  rw [e] at h
  refine And.intro ⟨by omega, ?_⟩ trivial
  refine And.intro ⟨by omega, ?_⟩ trivial
  rw [awA hR (b := a) (x := hh) (by omega) (by omega), awA hR (b := b) (x := oo) (by omega) (by omega)]
  have t1 := (tokA hR).1 (a * 24 + hh) (by omega) (by omega)
  have t2 := (tokA hR).1 (b * 24 + oo) (by omega) (by omega)
  refine And.intro (fun q => ?_) (fun q => ?_)
  · rw [if_neg q] at h
    refine And.intro ⟨by omega, fun r => ?_, fun r => ?_⟩ trivial
    · rw [hR.1.2.2.2.2.1.1] at r
      rw [if_pos r] at h
      exact ⟨fun y => absurd y (by decide), fun _ => h μ hR FrC_rf⟩
    · rw [hR.1.2.2.2.2.1.1] at r
      rw [if_neg r] at h
      exact ⟨fun _ => h μ hR FrC_rf, fun y => absurd rfl y⟩
  · rw [if_pos (Classical.not_not.mp q)] at h
    exact h μ hR FrC_rf
/-- who may have done all that was SEEN: bits from 63 on -/
noncomputable def suB (A : Ab) (c : Int) : Int := if an A (c / 24) (c % 24) = -1 then 0 else oh_shl 1 (an A (c / 24) (c % 24))
noncomputable def su (A : Ab) : Nat → Int
  | 0 => 63
  | k + 1 => oh_and (su A k) (suB A (A 5 k))
noncomputable def s_suspects (A : Ab) : Int × Ab := (su A (A 2 3).toNat, A)
def T_X4_suspects : Tr := tC0 s_suspects
theorem RepC_V {A : Ab} {μ : Mem} (h : RepC A μ) : RepV A μ := h.1.2.2.2.2.2.2.2.1
theorem ok_X4_suspects : oh_Ok (pg_X4_suspects T_X4_dayBy) 5 T_X4_suspects := by
  refine tO0_ok fun n μ Post G hG hn hM h => ?_
  obtain rfl := n13 hn
  obtain ⟨A, hR, h⟩ := h
  unfold s_suspects at h
  dsimp only at h
  refine oh_go hG [(14, 5)] 40 ?_
  refine And.intro (T_day hR (fun μ1 g1 g2 g3 => ?_)) trivial
  obtain ⟨⟨v1, v2, v3⟩, v4, v5, v6⟩ := RepC_V g1
  have key : ∀ (k : Nat) (c : Int) (r : Option AV), 0 ≤ c → c + k = A 2 3 → G 14 [some (oR 13 0), some (oR 0 (A 2 2).toNat), some (oI (su A c.toNat)), some (oI c), r] [] μ1 := by
    intro k
    induction k with
    | zero =>
      intro c r h0 h1
      refine oh_go hG [(14, 5)] 40 ?_
      refine And.intro (fun _ => ?_) (fun q => absurd q (by omega))
      have e : c = A 2 3 := by omega
      rw [e]
      exact h μ1 g1 g2
    | succ k ih =>
      intro c r h0 h1
      have hs := (v6 c h0 (by omega)).1
      have ih := fun r => ih (c + 1) r (by omega) (by omega)
      have e1 : (c + 1).toNat = c.toNat + 1 := by omega
      have e2 : ((c.toNat : Nat) : Int) = c := by omega
      have e3 : su A (c + 1).toNat = oh_and (su A c.toNat) (suB A (A 5 c)) := by
        rw [e1]
        show oh_and (su A c.toNat) (suB A (A 5 (c.toNat : Int))) = _
        rw [e2]
      rw [e3] at ih
      refine oh_go hG [(14, 5)] 40 ?_
      refine And.intro (fun q => absurd q (by omega)) (fun _ => ?_)
      refine And.intro (by omega) ?_
      refine And.intro (by rw [v4]; omega) ?_
      rw [v4]
      rw [fr_actc g1 g3 hs]
      unfold suB at ih
      refine And.intro (fun q => ?_) (fun q => ?_)
      · rw [if_neg q] at ih
        exact ⟨by omega, ih _⟩
      · rw [if_pos (Classical.not_not.mp q)] at ih
        exact ⟨by omega, ih _⟩
  exact key (A 2 3).toNat 0 none (by omega) (by omega)
/-- a law under which all that was SEEN was done -/
noncomputable def lkB (A : Ab) (l : Int) : Bool := @decide (∀ j, 0 ≤ j → j < A 2 3 → cD A l (A 5 j) = A 6 j) (Classical.propDecidable _)
noncomputable def s_likely (A : Ab) : Int × Ab := (((mk (lkB A) 3 : Nat) : Int), A)
def T_X4_explainsSeen : Tr := tP0 13 0 fun n l μ Post => ∃ A, RepC A μ ∧ Fresh A l μ ∧ (lkB A l = true → Post (some (oI 1)) μ) ∧ (¬ lkB A l = true → Post (some (oI 0)) μ)
theorem lkB_t {A : Ab} {l : Int} : lkB A l = true ↔ ∀ j, 0 ≤ j → j < A 2 3 → cD A l (A 5 j) = A 6 j := by
  unfold lkB
  exact @decide_eq_true_iff _ (Classical.propDecidable _)
theorem ok_X4_explainsSeen : oh_Ok pg_X4_explainsSeen 3 T_X4_explainsSeen := by
  refine tP0_ok fun n l μ Post G hG hn hl hM h => ?_
  obtain rfl := n13 hn
  obtain ⟨A, hR, hF, ht, hf⟩ := h
  rw [lkB_t] at ht hf
  obtain ⟨⟨v1, v2, v3⟩, v4, v5, v6⟩ := RepC_V hR
  have key : ∀ (k : Nat) (c : Int), 0 ≤ c → c + k = A 2 3 → (∀ j, 0 ≤ j → j < c → cD A l (A 5 j) = A 6 j) → G 2 [some (oR 13 0), some (oR 0 l), some (oI c)] [] μ := by
    intro k
    induction k with
    | zero =>
      intro c h0 h1 hc
      refine oh_go hG [(2, 3)] 40 ?_
      exact And.intro (fun _ => ⟨by omega, ht (fun j a b => hc j a (by omega))⟩) (fun q => absurd q (by omega))
    | succ k ih =>
      intro c h0 h1 hc
      have hs := (v6 c h0 (by omega)).1
      refine oh_go hG [(2, 3)] 40 ?_
      refine And.intro (fun q => absurd q (by omega)) (fun _ => ?_)
      refine And.intro (by omega) ?_
      refine And.intro (by rw [v4]; omega) ?_
      refine And.intro (by omega) ?_
      rw [v4, v5]
      rw [(fr_c hF hs).1]
      refine And.intro (fun q => ?_) (fun q => ⟨by omega, hf (fun z => q (z c h0 (by omega)))⟩)
      refine And.intro (by omega) (ih _ (by omega) (by omega) (fun j a b => ?_))
      by_cases e : j = c
      · rw [e]
        exact q
      · exact hc j a (by omega)
  refine oh_go hG [(2, 3)] 5 ?_
  exact key (A 2 3).toNat 0 (by omega) (by omega) (fun j a b => absurd b (by omega))
def T_X4_likely : Tr := tC0 s_likely
theorem ok_X4_likely : oh_Ok (pg_X4_likely T_X4_dayBy T_X4_explainsSeen) 3 T_X4_likely := by
  refine tO0_ok fun n μ Post G hG hn hM h => ?_
  obtain rfl := n13 hn
  obtain ⟨A, hR, h⟩ := h
  unfold s_likely at h
  dsimp only at h
  have key : ∀ c, 0 ≤ c → c ≤ 3 → ∀ μ1, RepC A μ1 → FrC μ μ1 → G 4 [some (oR 13 0), some (oI ((mk (lkB A) c.toNat : Nat) : Int)), some (oI c)] [] μ1 := by
    refine oh_for (F := fun c => 0 ≤ c → c ≤ 3 → ∀ μ1, RepC A μ1 → FrC μ μ1 → G 4 [some (oR 13 0), some (oI ((mk (lkB A) c.toNat : Nat) : Int)), some (oI c)] [] μ1) 3 ?_ ?_
    · intro c hc h0 h1 μ1 g1 g2
      have e : c = 3 := by omega
      subst e
      refine oh_go hG [(4, 3)] 40 ?_
      exact ⟨fun _ => h μ1 g1 g2, fun q => absurd hc q⟩
    · intro c hc ih h0 h1 μ1 g1 g2
      have ih := ih (by omega) (by omega)
      have e2 : ((c.toNat : Nat) : Int) = c := by omega
      refine oh_go hG [(4, 3)] 40 ?_
      refine And.intro (fun q => absurd q (by omega)) (fun _ => ?_)
      refine And.intro ⟨A, g1, ⟨h0, hc⟩, fun μ2 k1 k2 k3 => ?_⟩ trivial
      refine And.intro ⟨A, k1, k3, fun r => ?_, fun r => ?_⟩ trivial
      · rw [e2] at r
        refine And.intro (fun y => absurd y (by decide)) (fun _ => ?_)
        refine And.intro (by omega) ?_
        rw [mk_put h0 (by omega) r]
        exact ih μ2 k1 (FrC_tr g2 k2)
      · rw [e2] at r
        refine And.intro (fun _ => ?_) (fun y => absurd rfl y)
        refine And.intro (by omega) ?_
        rw [mk_skip h0 r] at ih
        exact ih μ2 k1 (FrC_tr g2 k2)
  refine oh_go hG [(4, 3)] 5 ?_
  exact key 0 (by omega) (by omega) μ hR FrC_rf
