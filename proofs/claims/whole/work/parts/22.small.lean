/-! THE FACE: HOME, WORTH, SEEN -/
theorem tl_cg {A A' : Ab} (h0 : A' 2 0 = A 2 0) (h1 : A' 2 1 = A 2 1) (m : Nat) : tl m A' = tl m A := by
  unfold tl
  split
  · exact h0
  · exact h1
theorem RepT_cg {m : Nat} {A A' : Ab} {μ μ' : Mem} (h : RepT m A μ) (ha : A' m = A m) (hl : tl m A' = tl m A) (h1 : μ' 11 m = μ 11 m) (h2 : μ' 12 m = μ 12 m) : RepT m A' μ' := by
  unfold RepT at h ⊢
  rw [hl, tB_congr ha hl, ha, h1, h2]
  exact h
/-- an act that leaves texts, owners, days and homes as they are -/
theorem RepC_mk {A A' : Ab} {μ μ' : Mem} (h : RepC A μ) (hA : A' 0 = A 0 ∧ A' 1 = A 1 ∧ A' 2 0 = A 2 0 ∧ A' 2 1 = A 2 1 ∧ A' 3 = A 3) (hm : ∀ s n, (s ≤ 4 ∨ s = 8 ∧ n = 0 ∨ s = 11 ∨ s = 12 ∨ s = 15) → μ' s n = μ s n)
    (hw : μ' 16 0 = A' 4 ∧ ∀ j, 0 ≤ j → j < 144 → 0 ≤ A' 4 j ∧ A' 4 j ≤ 9) (hl : μ' 13 0 13 = A' 2 2 ∧ 0 ≤ A' 2 2 ∧ A' 2 2 ≤ 2) (hf : μ' 13 0 14 = A' 2 4) (hv : RepV A' μ') (hs : RepS A' μ') : RepC A' μ' := by
  obtain ⟨⟨h1, h2, h3, h4, -, -, -, -, -⟩, hO, hD⟩ := h
  obtain ⟨a0, a1, a20, a21, a3⟩ := hA
  have el := tl_cg a20 a21
  refine ⟨⟨RepT_cg h1 a0 (el 0) (hm _ _ (by omega)) (hm _ _ (by omega)), RepT_cg h2 a1 (el 1) (hm _ _ (by omega)) (hm _ _ (by omega)), fun l hl => by rw [hm 0 l (by omega)]; exact h3 l hl, by rw [hm 15 0 (by omega), a3]; exact h4, hw, hl, hf, hv, hs⟩, fun c a b => ?_, fun l hl => ?_⟩
  · rw [hm 8 0 (by omega), aw_congr a0 (el 0)]
    exact hO c a b
  · rw [aw_congr a0 (el 0), a1, tE_congr a1 (el 1), a3, hm 0 l (by omega)]
    exact ⟨(hD l hl).1, fun z => dayOK_keep ((hD l hl).2 z) (hm _ _ (by omega)) (hm _ _ (by omega)) (hm _ _ (by omega)) (hm _ _ (by omega)) (by rw [hm 0 l (by omega)])⟩
theorem RepS_cg {A A' : Ab} {μ μ' : Mem} (h : RepS A μ) (h7 : A' 7 = A 7) (h8 : A' 8 = A 8) (h9 : ∀ s, A' (9 + s) = A (9 + s)) (m9 : ∀ s, μ' 9 s = μ 9 s) (m10 : ∀ s, μ' 10 s = μ 10 s) : RepS A' μ' := by
  intro s hs
  rw [h7, h8, h9, m9, m10]
  exact h s hs
theorem RepV_cg {A A' : Ab} {μ μ' : Mem} (h : RepV A μ) (h3 : A' 2 3 = A 2 3) (h5 : A' 5 = A 5) (h6 : A' 6 = A 6) (m13 : μ' 13 0 12 = μ 13 0 12) (m19 : μ' 19 0 = μ 19 0) (m20 : μ' 20 0 = μ 20 0) : RepV A' μ' := by
  unfold RepV at h ⊢
  rw [h3, h5, h6, m13, m19, m20]
  exact h
def fndA (A : Ab) (k : Int) : Ab := up2 A 2 4 k
theorem RepC_fnd {A : Ab} {μ : Mem} (k : Int) (h : RepC A μ) : RepC (fndA A k) (oh_up μ 13 0 14 k) := by
  have hrow : ∀ s m, ¬ s = 13 → oh_up μ 13 0 14 k s m = μ s m := fun s m hs => funext fun j => oh_up_o (fun q => hs q.1)
  have ea : ∀ i, ¬ i = 2 → fndA A k i = A i := fun i hi => up2_r hi
  have e2 : ∀ j, ¬ j = 4 → fndA A k 2 j = A 2 j := fun j hj => up2_o (fun q => hj q.2)
  have e13 : ∀ j, ¬ j = 14 → oh_up μ 13 0 14 k 13 0 j = μ 13 0 j := fun j hj => oh_up_o (fun q => hj q.2.2)
  refine RepC_mk h ⟨ea 0 (by decide), ea 1 (by decide), e2 0 (by decide), e2 1 (by decide), ea 3 (by decide)⟩ (fun s m hs => hrow s m (by omega)) ?_ ?_ ?_ ?_ ?_
  · rw [hrow 16 0 (by decide), ea 4 (by decide)]
    exact h.1.2.2.2.2.1
  · rw [e13 13 (by decide), e2 2 (by decide)]
    exact h.1.2.2.2.2.2.1
  · rw [oh_up_s]
    exact up2_s.symm
  · exact RepV_cg h.1.2.2.2.2.2.2.2.1 (e2 3 (by decide)) (ea 5 (by decide)) (ea 6 (by decide)) (e13 12 (by decide)) (hrow _ _ (by decide)) (hrow _ _ (by decide))
  · exact RepS_cg h.1.2.2.2.2.2.2.2.2 (ea 7 (by decide)) (ea 8 (by decide)) (fun s => ea _ (by omega)) (fun s => hrow _ _ (by decide)) (fun s => hrow _ _ (by decide))
theorem FrC_up {μ : Mem} {s n : Nat} {j v : Int} (h : s < 22) : FrC μ (oh_up μ s n j v) := fun s' m hs => funext fun _ => oh_up_o (fun q => by omega)
def s_home (A : Ab) (b p : Int) : Int × Ab := if ¬ (0 ≤ b ∧ b < 6) ∨ ¬ (0 ≤ p ∧ p < 10) then (-2, A) else (A 3 b, up2 A 3 b p)
def T_X4_home : Tr := tC2 s_home
theorem ok_X4_home : oh_Ok (pg_X4_home T_X4_isBelow T_X4_ageDays) 4 T_X4_home := by
  refine tO2_ok fun n b p μ Post G hG hn hb hp hM h => ?_
  obtain rfl := n13 hn
  obtain ⟨A, hR, h⟩ := h
  have hbad : ¬ (0 ≤ b ∧ b < 6) ∨ ¬ (0 ≤ p ∧ p < 10) → Post (some (oI (-2))) μ := fun x => by
    have e : s_home A b p = (-2, A) := if_pos x
    rw [e] at h
    exact h μ hR FrC_rf
  refine oh_go hG [] 60 ?_
  refine And.intro ?_ trivial
  refine And.intro (fun x => ?_) (fun x => ⟨fun _ => hbad (Or.inl x), fun y => absurd rfl y⟩)
  refine And.intro (fun y => absurd y (by decide)) (fun _ => ?_)
  refine And.intro ?_ trivial
  refine And.intro (fun z => ?_) (fun z => ⟨fun y => absurd rfl y, fun _ => hbad (Or.inr z)⟩)
  refine And.intro (fun _ => ?_) (fun y => absurd (by decide) y)
  have e : s_home A b p = (A 3 b, up2 A 3 b p) := if_neg (by omega)
  rw [e] at h
  dsimp only at h
  obtain ⟨⟨h1, h2, h3, h4, h5, h6, h7, h8, h9⟩, hO, hD⟩ := hR
  refine And.intro (by omega) ?_
  refine And.intro (by omega) ?_
  refine And.intro (fun μ2 g3 g4 => ?_) trivial
  show Post (some (oI (μ 15 0 b))) μ2
  rw [h4.1]
  have hrow : ∀ s m, ¬ s = 0 → ¬ s = 15 → μ2 s m = μ s m := fun s m hs hs2 => funext fun j => by
    rw [g3 s m j (fun q => hs q.1), oh_up_o (fun q => hs2 q.1)]
  have ea : ∀ i, ¬ i = 3 → up2 A 3 b p i = A i := fun i hi => up2_r hi
  have e3 : (fun j => if j = b then p else A 3 j) = up2 A 3 b p 3 := funext fun j => by
    unfold up2
    by_cases e : j = b
    · simp [e]
    · simp [e]
  have m15 : μ2 15 0 = up2 A 3 b p 3 := by
    rw [← e3]
    funext j
    rw [g3 15 0 j (fun q => absurd q.1 (by decide))]
    by_cases e : j = b
    · rw [e, oh_up_s, if_pos rfl]
    · rw [oh_up_o (fun q => e q.2.2), if_neg e, h4.1]
  have el : ∀ m, tl m (up2 A 3 b p) = tl m A := tl_cg (by rw [ea 2 (by decide)]) (by rw [ea 2 (by decide)])
  refine h μ2 ⟨⟨RepT_cg h1 (ea 0 (by decide)) (el 0) (hrow _ _ (by decide) (by decide)) (hrow _ _ (by decide) (by decide)), RepT_cg h2 (ea 1 (by decide)) (el 1) (hrow _ _ (by decide) (by decide)) (hrow _ _ (by decide) (by decide)), fun l hl => ?_, ⟨m15, fun j a c => ?_⟩, ?_, ?_, ?_, ?_, ?_⟩, fun c a d => ?_, fun l hl => ⟨Or.inl (g4 l hl), fun z => ?_⟩⟩ (fun s m hs => hrow s m (by omega) (by omega))
  · rw [g3 0 l 0 (fun q => absurd q.2 (by decide)), oh_up_o (fun q => absurd q.1 (by decide))]
    exact h3 l hl
  · rw [← e3]
    show 0 ≤ (if j = b then p else A 3 j) ∧ (if j = b then p else A 3 j) ≤ 9
    split
    · omega
    · exact h4.2 j a c
  · rw [hrow 16 0 (by decide) (by decide), ea 4 (by decide)]
    exact h5
  · rw [hrow 13 0 (by decide) (by decide), ea 2 (by decide)]
    exact h6
  · rw [hrow 13 0 (by decide) (by decide), ea 2 (by decide)]
    exact h7
  · exact RepV_cg h8 (by rw [ea 2 (by decide)]) (ea 5 (by decide)) (ea 6 (by decide)) (by rw [hrow 13 0 (by decide) (by decide)]) (hrow _ _ (by decide) (by decide)) (hrow _ _ (by decide) (by decide))
  · exact RepS_cg h9 (ea 7 (by decide)) (ea 8 (by decide)) (fun s => ea _ (by omega)) (fun s => hrow _ _ (by decide) (by decide)) (fun s => hrow _ _ (by decide) (by decide))
  · rw [hrow 8 0 (by decide) (by decide), aw_congr (ea 0 (by decide)) (el 0)]
    exact hO c a d
  · rw [g4 l hl] at z
    exact absurd z (by decide)
def s_worth (A : Ab) (p h v : Int) : Int × Ab := if ¬ ((0 ≤ p ∧ p < 6) ∧ 0 ≤ h ∧ h < 24) ∨ ¬ (0 ≤ v ∧ v < 10) then (-2, A) else (A 4 (p * 24 + h), up2 A 4 (p * 24 + h) v)
/-- an act on the WORTHS alone -/
theorem RepC_w {A A' : Ab} {μ μ' : Mem} (h : RepC A μ) (ea : ∀ i, ¬ i = 4 → A' i = A i) (hm : ∀ s n, ¬ (s = 16 ∧ n = 0) → μ' s n = μ s n) (h16 : μ' 16 0 = A' 4) (hf : ∀ j, 0 ≤ j → j < 144 → 0 ≤ A' 4 j ∧ A' 4 j ≤ 9) : RepC A' μ' := by
  refine RepC_mk h ⟨ea 0 (by decide), ea 1 (by decide), by rw [ea 2 (by decide)], by rw [ea 2 (by decide)], ea 3 (by decide)⟩ (fun s n hs => hm s n (by omega)) ⟨h16, hf⟩ ?_ ?_ ?_ ?_
  · rw [hm 13 0 (by omega), ea 2 (by decide)]
    exact h.1.2.2.2.2.2.1
  · rw [hm 13 0 (by omega), ea 2 (by decide)]
    exact h.1.2.2.2.2.2.2.1
  · exact RepV_cg h.1.2.2.2.2.2.2.2.1 (by rw [ea 2 (by decide)]) (ea 5 (by decide)) (ea 6 (by decide)) (by rw [hm 13 0 (by omega)]) (hm _ _ (by omega)) (hm _ _ (by omega))
  · exact RepS_cg h.1.2.2.2.2.2.2.2.2 (ea 7 (by decide)) (ea 8 (by decide)) (fun s => ea _ (by omega)) (fun s => hm _ _ (by omega)) (fun s => hm _ _ (by omega))
theorem up2_eq {A : Ab} {k : Nat} {j v : Int} : up2 A k j v = fun k' => if k' = k then (fun j' => if j' = j then v else A k j') else A k' := by
  funext k' j'
  unfold up2
  by_cases e : k' = k
  · subst e
    by_cases e2 : j' = j
    · simp [e2]
    · simp [e2]
  · simp [e]
def T_X4_worth : Tr := tC3 s_worth
theorem ok_X4_worth : oh_Ok (pg_X4_worth T_X4_isCell T_X4_isBelow T_X4_cell) 5 T_X4_worth := by
  refine tO3_ok fun n p hh v μ Post G hG hn hp hh0 hv hM h => ?_
  obtain rfl := n13 hn
  obtain ⟨A, hR, h⟩ := h
  have hbad : ¬ ((0 ≤ p ∧ p < 6) ∧ 0 ≤ hh ∧ hh < 24) ∨ ¬ (0 ≤ v ∧ v < 10) → Post (some (oI (-2))) μ := fun x => by
    have e : s_worth A p hh v = (-2, A) := if_pos x
    rw [e] at h
    exact h μ hR FrC_rf
  refine oh_go hG [] 60 ?_
  refine And.intro ?_ trivial
  refine And.intro (fun x => ?_) (fun x => ⟨fun _ => hbad (Or.inl x), fun y => absurd rfl y⟩)
  refine And.intro (fun y => absurd y (by decide)) (fun _ => ?_)
  refine And.intro ?_ trivial
  refine And.intro (fun z => ?_) (fun z => ⟨fun y => absurd rfl y, fun _ => hbad (Or.inr z)⟩)
  refine And.intro (fun _ => ?_) (fun y => absurd (by decide) y)
  have e : s_worth A p hh v = (A 4 (p * 24 + hh), up2 A 4 (p * 24 + hh) v) := if_neg (by omega)
  rw [e] at h
  dsimp only at h
  have e4 : ∀ j, up2 A 4 (p * 24 + hh) v 4 j = if j = p * 24 + hh then v else A 4 j := fun j => by
    by_cases e : j = p * 24 + hh
    · rw [if_pos e, e, up2_s]
    · rw [if_neg e, up2_o (fun q => e q.2)]
  have h5 := hR.1.2.2.2.2.1
  refine And.intro ⟨by omega, ?_⟩ trivial
  refine And.intro (by omega) ?_
  refine And.intro ⟨by omega, ?_⟩ trivial
  refine And.intro (by omega) ?_
  rw [h5.1]
  refine h _ (RepC_w hR (fun i hi => up2_r hi) (fun s n hs => funext fun j => oh_up_o (fun q => hs ⟨q.1, q.2.1⟩)) (funext fun j => ?_) (fun j a b => ?_)) (FrC_up (by decide))
  · rw [e4]
    by_cases e : j = p * 24 + hh
    · rw [e, oh_up_s, if_pos rfl]
    · rw [oh_up_o (fun q => e q.2.2), if_neg e, h5.1]
  · rw [e4]
    split
    · omega
    · exact h5.2 j a b
def s_seen (A : Ab) (b h d : Int) : Int × Ab := if ¬ ((0 ≤ b ∧ b < 6) ∧ 0 ≤ h ∧ h < 24) ∨ ¬ (0 ≤ d ∧ d < 5) then (-2, A) else if 8 ≤ A 2 3 then (-4, A) else (A 2 3 + 1, up2 (up2 (up2 A 5 (A 2 3) (b * 24 + h)) 6 (A 2 3) d) 2 3 (A 2 3 + 1))
def T_X4_seen : Tr := tC3 s_seen
theorem ok_X4_seen : oh_Ok (pg_X4_seen T_X4_isCell T_X4_isBelow T_X4_cell) 4 T_X4_seen := by
  refine tO3_ok fun n b hh d μ Post G hG hn hb hh0 hd hM h => ?_
  obtain rfl := n13 hn
  obtain ⟨A, hR, h⟩ := h
  have hbad : ¬ ((0 ≤ b ∧ b < 6) ∧ 0 ≤ hh ∧ hh < 24) ∨ ¬ (0 ≤ d ∧ d < 5) → Post (some (oI (-2))) μ := fun x => by
    have e : s_seen A b hh d = (-2, A) := if_pos x
    rw [e] at h
    exact h μ hR FrC_rf
  have hV := hR.1.2.2.2.2.2.2.2.1
  obtain ⟨⟨v1, v2, v3⟩, v4, v5, v6⟩ := id hV
  refine oh_go hG [] 60 ?_
  refine And.intro ?_ trivial
  refine And.intro (fun x => ?_) (fun x => ⟨fun _ => hbad (Or.inl x), fun y => absurd rfl y⟩)
  refine And.intro (fun y => absurd y (by decide)) (fun _ => ?_)
  refine And.intro ?_ trivial
  refine And.intro (fun z => ?_) (fun z => ⟨fun y => absurd rfl y, fun _ => hbad (Or.inr z)⟩)
  refine And.intro (fun _ => ?_) (fun y => absurd (by decide) y)
  have e : s_seen A b hh d = if 8 ≤ A 2 3 then (-4, A) else (A 2 3 + 1, up2 (up2 (up2 A 5 (A 2 3) (b * 24 + hh)) 6 (A 2 3) d) 2 3 (A 2 3 + 1)) := if_neg (by omega)
  rw [e] at h
  refine And.intro (fun w => ?_) (fun w => ?_)
  · rw [v1] at w
    rw [if_neg (by omega)] at h
    dsimp only at h
    refine And.intro ⟨by omega, ?_⟩ trivial
    refine And.intro (by omega) ?_
    have c1 : ∀ x y : Int, oh_up μ 19 0 (μ 13 0 12) x 13 0 12 = μ 13 0 12 := fun x y => oh_up_o (fun q => absurd q.1 (by decide))
    have c2 : ∀ x y : Int, oh_up (oh_up μ 19 0 (μ 13 0 12) x) 20 0 (μ 13 0 12) y 13 0 12 = μ 13 0 12 := fun x y => by rw [oh_up_o (fun q => absurd q.1 (by decide)), c1 x y]
    refine And.intro (by rw [c1 _ 0]; omega) ?_
    rw [c1 _ 0]
    refine And.intro (by rw [c2]; omega) ?_
    rw [c2]
    show Post (some (oI (oh_up _ 13 0 12 (μ 13 0 12 + 1) 13 0 12))) _
    rw [oh_up_s, v1]
    have ea : ∀ i, ¬ i = 2 → ¬ i = 5 → ¬ i = 6 → up2 (up2 (up2 A 5 (A 2 3) (b * 24 + hh)) 6 (A 2 3) d) 2 3 (A 2 3 + 1) i = A i := fun i i2 i5 i6 => by rw [up2_r i2, up2_r i6, up2_r i5]
    have e2 : ∀ j, ¬ j = 3 → up2 (up2 (up2 A 5 (A 2 3) (b * 24 + hh)) 6 (A 2 3) d) 2 3 (A 2 3 + 1) 2 j = A 2 j := fun j hj => by rw [up2_o (fun q => hj q.2), up2_o (fun q => absurd q.1 (by decide)), up2_o (fun q => absurd q.1 (by decide))]
    have e5 : ∀ j, up2 (up2 (up2 A 5 (A 2 3) (b * 24 + hh)) 6 (A 2 3) d) 2 3 (A 2 3 + 1) 5 j = if j = A 2 3 then b * 24 + hh else A 5 j := fun j => by
      rw [up2_o (fun q => absurd q.1 (by decide)), up2_o (fun q => absurd q.1 (by decide))]
      by_cases e : j = A 2 3
      · rw [if_pos e, e, up2_s]
      · rw [if_neg e, up2_o (fun q => e q.2)]
    have e6 : ∀ j, up2 (up2 (up2 A 5 (A 2 3) (b * 24 + hh)) 6 (A 2 3) d) 2 3 (A 2 3 + 1) 6 j = if j = A 2 3 then d else A 6 j := fun j => by
      rw [up2_o (fun q => absurd q.1 (by decide))]
      by_cases e : j = A 2 3
      · rw [if_pos e, e, up2_s]
      · rw [if_neg e, up2_o (fun q => e q.2), up2_o (fun q => absurd q.1 (by decide))]
    refine h _ (RepC_mk hR ⟨ea 0 (by decide) (by decide) (by decide), ea 1 (by decide) (by decide) (by decide), e2 0 (by decide), e2 1 (by decide), ea 3 (by decide) (by decide) (by decide)⟩ (fun s n hs => funext fun j => ?_) ?_ ?_ ?_ ⟨⟨?_, ?_⟩, funext fun j => ?_, funext fun j => ?_, fun j a c => ?_⟩ ?_) (fun s n hs => funext fun j => ?_)
    · rw [oh_up_o (fun q => by omega), oh_up_o (fun q => by omega), oh_up_o (fun q => by omega)]
    · rw [ea 4 (by decide) (by decide) (by decide)]
      have : oh_up (oh_up (oh_up μ 19 0 (A 2 3) (b * 24 + hh)) 20 0 (A 2 3) d) 13 0 12 (A 2 3 + 1) 16 0 = μ 16 0 := funext fun j => by rw [oh_up_o (fun q => by omega), oh_up_o (fun q => by omega), oh_up_o (fun q => by omega)]
      rw [this]
      exact hR.1.2.2.2.2.1
    · rw [e2 2 (by decide), oh_up_o (fun q => by omega), oh_up_o (fun q => by omega), oh_up_o (fun q => by omega)]
      exact hR.1.2.2.2.2.2.1
    · rw [e2 4 (by decide), oh_up_o (fun q => by omega), oh_up_o (fun q => by omega), oh_up_o (fun q => by omega)]
      exact hR.1.2.2.2.2.2.2.1
    · rw [oh_up_s, up2_s]
    · rw [up2_s]
      omega
    · rw [e5, oh_up_o (fun q => by omega), oh_up_o (fun q => by omega)]
      by_cases e : j = A 2 3
      · rw [if_pos e, e, oh_up_s]
      · rw [if_neg e, oh_up_o (fun q => e q.2.2), v4]
    · rw [e6, oh_up_o (fun q => by omega)]
      by_cases e : j = A 2 3
      · rw [if_pos e, e, oh_up_s]
      · rw [if_neg e, oh_up_o (fun q => e q.2.2), oh_up_o (fun q => by omega), v5]
    · rw [up2_s] at c
      rw [e5, e6]
      by_cases e : j = A 2 3
      · rw [if_pos e, if_pos e]
        omega
      · rw [if_neg e, if_neg e]
        exact v6 j a (by omega)
    · refine RepS_cg hR.1.2.2.2.2.2.2.2.2 (ea 7 (by decide) (by decide) (by decide)) (ea 8 (by decide) (by decide) (by decide)) (fun s => ea _ (by omega) (by omega) (by omega)) (fun s => funext fun j => ?_) (fun s => funext fun j => ?_)
      · rw [oh_up_o (fun q => by omega), oh_up_o (fun q => by omega), oh_up_o (fun q => by omega)]
      · rw [oh_up_o (fun q => by omega), oh_up_o (fun q => by omega), oh_up_o (fun q => by omega)]
    · rw [oh_up_o (fun q => by omega), oh_up_o (fun q => by omega), oh_up_o (fun q => by omega)]
  · rw [v1] at w
    rw [if_pos (by omega)] at h
    exact h μ hR FrC_rf
def s_forget (A : Ab) : Int × Ab := (A 2 3, up2 A 2 3 0)
def T_X4_forget : Tr := tC0 s_forget
theorem ok_X4_forget : oh_Ok pg_X4_forget 2 T_X4_forget := by
  refine tO0_ok fun n μ Post G hG hn hM h => ?_
  obtain rfl := n13 hn
  obtain ⟨A, hR, h⟩ := h
  have hV := hR.1.2.2.2.2.2.2.2.1
  obtain ⟨⟨v1, v2, v3⟩, v4, v5, v6⟩ := id hV
  have h : ∀ μ', RepC (up2 A 2 3 0) μ' → FrC μ μ' → Post (some (oI (μ 13 0 12))) μ' := by
    rw [v1]
    exact h
  refine oh_go hG [] 60 ?_
  have hrow : ∀ s m, ¬ s = 13 → oh_up μ 13 0 12 0 s m = μ s m := fun s m hs => funext fun j => oh_up_o (fun q => hs q.1)
  have ea : ∀ i, ¬ i = 2 → up2 A 2 3 0 i = A i := fun i hi => up2_r hi
  have e2 : ∀ j, ¬ j = 3 → up2 A 2 3 0 2 j = A 2 j := fun j hj => up2_o (fun q => hj q.2)
  have e13 : ∀ j, ¬ j = 12 → oh_up μ 13 0 12 0 13 0 j = μ 13 0 j := fun j hj => oh_up_o (fun q => hj q.2.2)
  refine h _ (RepC_mk hR ⟨ea 0 (by decide), ea 1 (by decide), e2 0 (by decide), e2 1 (by decide), ea 3 (by decide)⟩ (fun s m hs => hrow s m (by omega)) ?_ ?_ ?_ ⟨⟨?_, ?_⟩, ?_, ?_, fun j a c => ?_⟩ ?_) (FrC_up (by decide))
  · rw [hrow 16 0 (by decide), ea 4 (by decide)]
    exact hR.1.2.2.2.2.1
  · rw [e13 13 (by decide), e2 2 (by decide)]
    exact hR.1.2.2.2.2.2.1
  · rw [e13 14 (by decide), e2 4 (by decide)]
    exact hR.1.2.2.2.2.2.2.1
  · rw [oh_up_s, up2_s]
  · rw [up2_s]
    omega
  · rw [hrow 19 0 (by decide), ea 5 (by decide)]
    exact v4
  · rw [hrow 20 0 (by decide), ea 6 (by decide)]
    exact v5
  · rw [up2_s] at c
    omega
  · exact RepS_cg hR.1.2.2.2.2.2.2.2.2 (ea 7 (by decide)) (ea 8 (by decide)) (fun s => ea _ (by omega)) (fun s => hrow _ _ (by decide)) (fun s => hrow _ _ (by decide))
