/-! THE MODEL: texts typed and wiped -/
theorem ti_n {n : Nat} (h : n < 2) : ti n = (n : Int) := by
  rcases (show n = 0 ∨ n = 1 by omega) with rfl | rfl <;> rfl
theorem tl_2 {n : Nat} {A : Ab} (h : n < 2) : tl n A = A 2 (ti n) := by
  rcases (show n = 0 ∨ n = 1 by omega) with rfl | rfl <;> rfl
/-- an act on one text alone -/
theorem RepM_t {A A' : Ab} {μ μ' : Mem} {n : Nat} (hn : n < 2) (h : RepM A μ) (hA : ∀ k, ¬ k = n → ¬ k = 2 → A' k = A k) (h2 : ∀ j, ¬ j = ti n → A' 2 j = A 2 j) (hm : ∀ (s m : Nat) (j : Int), ¬ (s = 27 ∧ 99 * (n : Int) ≤ j ∧ j < 99 * (n : Int) + 99) → ¬ (s = 28 ∧ j = n) → μ' s m j = μ s m j) (hl : 0 ≤ tl (1 - n) A ∧ tl (1 - n) A ≤ 99) (ht : μ' 28 0 n = tl n A' ∧ ∀ j, 0 ≤ j → j < tl n A' → μ' 27 0 (99 * n + j) = A' n j) : RepM A' μ' := by
  obtain ⟨h1, h2', h3, h4, h5, h6, h7⟩ := h
  have hti := ti_n hn
  have hrow : ∀ s m, ¬ s = 27 → ¬ s = 28 → μ' s m = μ s m := fun s m s1 s2 => funext fun j => hm s m j (fun q => s1 q.1) (fun q => s2 q.1)
  refine ⟨RMh_cg h1 ⟨h2 4 (by omega), h2 2 (by omega), h2 3 (by omega)⟩ (hrow _ _ (by decide) (by decide)), fun t htt => ?_, RMo_cg h3 (hA 3 (by omega) (by omega)) (hrow _ _ (by decide) (by decide)), RMw_cg h4 (hA 4 (by omega) (by omega)) (hrow _ _ (by decide) (by decide)), RMv_cg h5 (h2 3 (by omega)) (hA 5 (by omega) (by omega)) (hA 6 (by omega) (by omega)) (hrow _ _ (by decide) (by decide)), RMs_cg h6 (hA 7 (by omega) (by omega)) (hA 8 (by omega) (by omega)) (fun s => hA _ (by omega) (by omega)) (hrow _ _ (by decide) (by decide)) (hrow _ _ (by decide) (by decide)) (hrow _ _ (by decide) (by decide)), by rw [hrow _ _ (by decide) (by decide)]; exact h7⟩
  by_cases e : t = n
  · subst e
    exact ht
  · have et : t = 1 - n := by omega
    have el : tl t A' = tl t A := by
      rw [tl_2 htt, tl_2 htt, h2 _ (by rw [ti_n htt, hti]; omega)]
    rw [← et] at hl
    rw [el, hA t e (by omega), hm 28 0 t (by omega) (by omega)]
    refine ⟨(h2' t htt).1, fun j a b => ?_⟩
    rw [hm 27 0 (99 * t + j) (by omega) (by omega)]
    exact (h2' t htt).2 j a b
def T_X5_wipe : Tr := tM1 s_wipe
theorem ok_X5_wipe : oh_Ok (pg_X5_wipe T_X5_isTwo) 3 T_X5_wipe := by
  refine tO1_ok fun n t μ Post G hG hn ht hM h => ?_
  obtain rfl := n22 hn
  obtain ⟨A, hV, hR, h⟩ := h
  refine oh_go hG [] 40 ?_
  refine And.intro ?_ trivial
  refine And.intro (fun x => ⟨fun _ => ?_, fun y => absurd (by decide) y⟩) (fun x => ⟨fun y => absurd rfl y, fun _ => ?_⟩)
  · have e : s_wipe A t = (tl t.toNat A, lenA t.toNat A 0) := if_neg (by omega)
    rw [e] at h
    dsimp only at h
    have et : ((t.toNat : Nat) : Int) = t := by omega
    have hl := (hR.2.1 t.toNat (by omega)).1
    rw [et] at hl
    refine And.intro (by omega) ?_
    refine And.intro (by omega) ?_
    rw [hl]
    refine h _ (RepM_t (n := t.toNat) (by omega) hR (fun k k1 k2 => up2_r k2) (fun j hj => up2_o (fun q => hj q.2)) (fun s m j s1 s2 => oh_up_o (fun q => s2 ⟨q.1, by omega⟩)) (hV.1 (1 - t.toNat) (by omega)).1 ⟨?_, fun j a b => ?_⟩) (FrM_up (by decide))
    · rw [tl_len (by omega), et, oh_up_s]
    · rw [tl_len (by omega)] at b
      omega
  · have e : s_wipe A t = (-2, A) := if_pos (by omega)
    rw [e] at h
    exact h μ hR FrM_rf
def T_X5_type : Tr := tM2 s_type
theorem ok_X5_type : oh_Ok (pg_X5_type T_X5_isTwo T_X5_in) 3 T_X5_type := by
  refine tO2_ok fun n t b μ Post G hG hn ht hb hM h => ?_
  obtain rfl := n22 hn
  obtain ⟨A, hV, hR, h⟩ := h
  have hbad : ¬ (0 ≤ t ∧ t < 2) ∨ ¬ (0 ≤ b ∧ b < 256) → Post (some (oI (-2))) μ := fun x => by
    have e : s_type A t b = (-2, A) := if_pos x
    rw [e] at h
    exact h μ hR FrM_rf
  refine oh_go hG [] 60 ?_
  refine And.intro ?_ trivial
  refine And.intro (fun x => ?_) (fun x => ⟨fun _ => hbad (by omega), fun y => absurd rfl y⟩)
  refine And.intro (fun y => absurd y (by decide)) (fun _ => ?_)
  refine And.intro ?_ trivial
  refine And.intro (fun z => ?_) (fun z => ⟨fun y => absurd rfl y, fun _ => hbad (by omega)⟩)
  refine And.intro (fun _ => ?_) (fun y => absurd (by decide) y)
  have z : 0 ≤ b ∧ b ≤ 255 := z
  have e : s_type A t b = if 99 ≤ tl t.toNat A then (-4, A) else (tl t.toNat A + 1, typA t.toNat A b) := if_neg (by omega)
  rw [e] at h
  have et : ((t.toNat : Nat) : Int) = t := by omega
  have hl := (hR.2.1 t.toNat (by omega)).1
  have hlv := (hV.1 t.toNat (by omega)).1
  rw [et] at hl
  refine And.intro (by omega) ?_
  rw [hl]
  refine And.intro (fun w => ?_) (fun w => ?_)
  · rw [if_neg (by omega)] at h
    dsimp only at h
    have c1 : ∀ x y : Int, oh_up μ 27 0 x y 28 0 t = tl t.toNat A := fun x y => by rw [oh_up_o (fun q => absurd q.1 (by decide)), hl]
    refine And.intro (by omega) ?_
    refine And.intro (by omega) ?_
    rw [hl]
    refine And.intro (by omega) ?_
    refine And.intro (by omega) ?_
    refine And.intro (by omega) ?_
    rw [c1]
    refine And.intro (by omega) ?_
    refine And.intro (by omega) ?_
    refine And.intro (by omega) ?_
    rw [oh_up_s]
    have hn2 : t.toNat < 2 := by omega
    have htl : tl t.toNat (typA t.toNat A b) = tl t.toNat A + 1 := by
      rw [tl_2 hn2]
      exact up2_s
    refine h _ (RepM_t (n := t.toNat) hn2 hR (fun k k1 k2 => by unfold typA; rw [up2_r k2, up2_r k1]) (fun j hj => by unfold typA; rw [up2_o (fun q => hj q.2), up2_o (fun q => by omega)]) (fun s m j s1 s2 => by rw [oh_up_o (fun q => s2 ⟨q.1, by omega⟩), oh_up_o (fun q => s1 ⟨q.1, by omega, by omega⟩)]) (hV.1 (1 - t.toNat) (by omega)).1 ⟨?_, fun j a c => ?_⟩) (FrM_tr (FrM_up (by decide)) (FrM_up (by decide)))
    · rw [htl, et, oh_up_s]
    · rw [htl] at c
      rw [oh_up_o (by omega)]
      unfold typA
      rw [up2_o (fun q => by omega)]
      by_cases e : j = tl t.toNat A
      · rw [e, up2_s, et, oh_up_s]
      · rw [up2_o (fun q => e q.2), oh_up_o (by omega)]
        exact (hR.2.1 t.toNat hn2).2 j a (by omega)
  · rw [if_pos (by omega)] at h
    exact h μ hR FrM_rf
