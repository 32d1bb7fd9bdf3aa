/-! THE MODEL'S STATE -/
def ValA (A : Ab) : Prop := (∀ t : Nat, t < 2 → (0 ≤ tl t A ∧ tl t A ≤ 99) ∧ ∀ j, 0 ≤ j → j < tl t A → 0 ≤ A t j ∧ A t j ≤ 255) ∧ (∀ j, 0 ≤ j → j < 6 → 0 ≤ A 3 j ∧ A 3 j ≤ 9) ∧ (∀ j, 0 ≤ j → j < 144 → 0 ≤ A 4 j ∧ A 4 j ≤ 9) ∧ (0 ≤ A 2 2 ∧ A 2 2 ≤ 2) ∧ ((0 ≤ A 2 3 ∧ A 2 3 ≤ 8) ∧ ∀ j, 0 ≤ j → j < A 2 3 → (0 ≤ A 5 j ∧ A 5 j < 144) ∧ 0 ≤ A 6 j ∧ A 6 j ≤ 4) ∧ (∀ s : Nat, s < 4 → (-1 ≤ A 8 s ∧ A 8 s ≤ 60) ∧ (¬ A 8 s = -1 → 0 ≤ A 7 s ∧ A 7 s ≤ 2))
theorem RepC_val {A : Ab} {μ : Mem} (h : RepC A μ) : ValA A := by
  obtain ⟨⟨h1, h2, h3, h4, h5, h6, h7, h8, h9⟩, -, -⟩ := h
  refine ⟨fun t ht => ?_, h4.2, h5.2, h6.2, ⟨h8.1.2, h8.2.2.2⟩, fun s hs => ⟨(h9 s hs).2.1, fun z => ((h9 s hs).2.2.1 z).2⟩⟩
  rcases (show t = 0 ∨ t = 1 by omega) with rfl | rfl
  · exact ⟨h1.2.2.2.1, h1.2.2.2.2.1⟩
  · exact ⟨h2.2.2.2.1, h2.2.2.2.2.1⟩
def RMh (A : Ab) (μ : Mem) : Prop := μ 22 0 4 = A 2 4 ∧ μ 22 0 13 = A 2 2 ∧ μ 22 0 23 = A 2 3
def RMt (A : Ab) (μ : Mem) : Prop := ∀ t : Nat, t < 2 → μ 28 0 t = tl t A ∧ ∀ j, 0 ≤ j → j < tl t A → μ 27 0 (99 * t + j) = A t j
def RMo (A : Ab) (μ : Mem) : Prop := ∀ j, 0 ≤ j → j < 6 → μ 32 0 j = A 3 j
def RMw (A : Ab) (μ : Mem) : Prop := ∀ j, 0 ≤ j → j < 144 → μ 33 0 j = A 4 j
def RMv (A : Ab) (μ : Mem) : Prop := ∀ j, 0 ≤ j → j < A 2 3 → μ 41 0 (3 * j) = A 5 j / 24 ∧ μ 41 0 (3 * j + 1) = A 5 j % 24 ∧ μ 41 0 (3 * j + 2) = A 6 j
def RMs (A : Ab) (μ : Mem) : Prop := ∀ s : Nat, s < 4 → (A 8 s = -1 → μ 23 0 s = -1) ∧ (¬ A 8 s = -1 → μ 23 0 s = A 7 s ∧ μ 24 0 s = A 8 s ∧ ∀ j, 0 ≤ j → j < A 8 s → μ 25 0 (60 * s + j) = A (9 + s) j)
def RepM (A : Ab) (μ : Mem) : Prop := RMh A μ ∧ RMt A μ ∧ RMo A μ ∧ RMw A μ ∧ RMv A μ ∧ RMs A μ ∧ μ 40 0 0 = 0
def FrM (μ μ' : Mem) : Prop := ∀ s n, s < 22 → μ' s n = μ s n
theorem FrM_rf {μ : Mem} : FrM μ μ := fun _ _ _ => rfl
theorem FrM_tr {μ μ1 μ2 : Mem} (h : FrM μ μ1) (h' : FrM μ1 μ2) : FrM μ μ2 := fun s n hs => (h' s n hs).trans (h s n hs)
theorem FrM_up {μ : Mem} {s n : Nat} {j v : Int} (h : 22 ≤ s) : FrM μ (oh_up μ s n j v) := fun s' m hs => funext fun _ => oh_up_o (fun q => by omega)
theorem RMh_cg {A A' : Ab} {μ μ' : Mem} (h : RMh A μ) (e : A' 2 4 = A 2 4 ∧ A' 2 2 = A 2 2 ∧ A' 2 3 = A 2 3) (m : μ' 22 0 = μ 22 0) : RMh A' μ' := by
  unfold RMh at h ⊢
  rw [e.1, e.2.1, e.2.2, m]
  exact h
theorem RMt_cg {A A' : Ab} {μ μ' : Mem} (h : RMt A μ) (e0 : A' 0 = A 0) (e1 : A' 1 = A 1) (l0 : A' 2 0 = A 2 0) (l1 : A' 2 1 = A 2 1) (m27 : μ' 27 0 = μ 27 0) (m28 : μ' 28 0 = μ 28 0) : RMt A' μ' := fun t ht => by
  have et : A' t = A t := by
    rcases (show t = 0 ∨ t = 1 by omega) with rfl | rfl
    · exact e0
    · exact e1
  rw [tl_cg l0 l1 t, et, m27, m28]
  exact h t ht
theorem RMo_cg {A A' : Ab} {μ μ' : Mem} (h : RMo A μ) (e : A' 3 = A 3) (m : μ' 32 0 = μ 32 0) : RMo A' μ' := fun j a b => by rw [e, m]; exact h j a b
theorem RMw_cg {A A' : Ab} {μ μ' : Mem} (h : RMw A μ) (e : A' 4 = A 4) (m : μ' 33 0 = μ 33 0) : RMw A' μ' := fun j a b => by rw [e, m]; exact h j a b
theorem RMv_cg {A A' : Ab} {μ μ' : Mem} (h : RMv A μ) (e3 : A' 2 3 = A 2 3) (e5 : A' 5 = A 5) (e6 : A' 6 = A 6) (m : μ' 41 0 = μ 41 0) : RMv A' μ' := fun j a b => by
  rw [e3] at b
  rw [e5, e6, m]
  exact h j a b
theorem RMs_cg {A A' : Ab} {μ μ' : Mem} (h : RMs A μ) (e7 : A' 7 = A 7) (e8 : A' 8 = A 8) (e9 : ∀ s : Nat, A' (9 + s) = A (9 + s)) (m23 : μ' 23 0 = μ 23 0) (m24 : μ' 24 0 = μ 24 0) (m25 : μ' 25 0 = μ 25 0) : RMs A' μ' := fun s hs => by
  rw [e7, e8, e9, m23, m24, m25]
  exact h s hs
/-- what the Model keeps only while it answers -/
def scr (s : Nat) (j : Int) : Prop := s = 22 ∧ (j = 7 ∨ j = 8 ∨ j = 11) ∨ s = 26 ∨ s = 29 ∨ s = 30 ∨ s = 31 ∨ (34 ≤ s ∧ s ≤ 39) ∨ (s = 40 ∧ ¬ j = 0)
def kM (μ μ' : Mem) : Prop := ∀ s n j, ¬ scr s j → μ' s n j = μ s n j
theorem kM_rf {μ : Mem} : kM μ μ := fun _ _ _ _ => rfl
theorem kM_tr {μ μ1 μ2 : Mem} (h : kM μ μ1) (h' : kM μ1 μ2) : kM μ μ2 := fun s n j hs => (h' s n j hs).trans (h s n j hs)
theorem kM_up {μ : Mem} {s n : Nat} {j v : Int} (h : scr s j) : kM μ (oh_up μ s n j v) := fun s' m j' hs => oh_up_o (fun q => hs (by rw [q.1, q.2.2]; exact h))
theorem kM_row {μ μ' : Mem} (h : kM μ μ') {s : Nat} (hs : ¬ (s = 22 ∨ s = 26 ∨ s = 29 ∨ s = 30 ∨ s = 31 ∨ (34 ≤ s ∧ s ≤ 40))) (n : Nat) : μ' s n = μ s n := funext fun j => h s n j (fun q => hs (by unfold scr at q; omega))
theorem kM_Fr {μ μ' : Mem} (h : kM μ μ') : FrM μ μ' := fun s n hs => kM_row h (by omega) n
theorem RepM_k {A : Ab} {μ μ' : Mem} (h : RepM A μ) (hk : kM μ μ') : RepM A μ' := by
  obtain ⟨h1, h2, h3, h4, h5, h6, h7⟩ := h
  have r := fun s hs => kM_row hk (s := s) hs 0
  refine ⟨?_, RMt_cg h2 rfl rfl rfl rfl (r 27 (by omega)) (r 28 (by omega)), RMo_cg h3 rfl (r 32 (by omega)), RMw_cg h4 rfl (r 33 (by omega)), RMv_cg h5 rfl rfl rfl (r 41 (by omega)), RMs_cg h6 rfl rfl (fun _ => rfl) (r 23 (by omega)) (r 24 (by omega)) (r 25 (by omega)), ?_⟩
  · have r22 : ∀ j, ¬ (j = 7 ∨ j = 8 ∨ j = 11) → μ' 22 0 j = μ 22 0 j := fun j hj => hk 22 0 j (fun q => hj (by unfold scr at q; omega))
    unfold RMh
    rw [r22 4 (by omega), r22 13 (by omega), r22 23 (by omega)]
    exact h1
  · rw [hk 40 0 0 (fun q => by unfold scr at q; omega)]
    exact h7
theorem n22 {n : Nat} (h : n < oh_cnt 22) : n = 0 := by
  have : oh_cnt 22 = 1 := rfl
  omega
def tM0 (f : Ab → Int × Ab) : Tr := tO0 22 fun n μ Post => ∃ A, ValA A ∧ RepM A μ ∧ ∀ μ', RepM (f A).2 μ' → FrM μ μ' → Post (some (oI (f A).1)) μ'
def tM1 (f : Ab → Int → Int × Ab) : Tr := tO1 22 fun n a μ Post => ∃ A, ValA A ∧ RepM A μ ∧ ∀ μ', RepM (f A a).2 μ' → FrM μ μ' → Post (some (oI (f A a).1)) μ'
def tM2 (f : Ab → Int → Int → Int × Ab) : Tr := tO2 22 fun n a b μ Post => ∃ A, ValA A ∧ RepM A μ ∧ ∀ μ', RepM (f A a b).2 μ' → FrM μ μ' → Post (some (oI (f A a b).1)) μ'
def tM3 (f : Ab → Int → Int → Int → Int × Ab) : Tr := tO3 22 fun n a b c μ Post => ∃ A, ValA A ∧ RepM A μ ∧ ∀ μ', RepM (f A a b c).2 μ' → FrM μ μ' → Post (some (oI (f A a b c).1)) μ'
def tM4 (f : Ab → Int → Int → Int → Int → Int × Ab) : Tr := tO4 22 fun n a b c d μ Post => ∃ A, ValA A ∧ RepM A μ ∧ ∀ μ', RepM (f A a b c d).2 μ' → FrM μ μ' → Post (some (oI (f A a b c d).1)) μ'
def tM5 (f : Ab → Int → Int → Int → Int → Int → Int × Ab) : Tr := tO5 22 fun n a b c d e μ Post => ∃ A, ValA A ∧ RepM A μ ∧ ∀ μ', RepM (f A a b c d e).2 μ' → FrM μ μ' → Post (some (oI (f A a b c d e).1)) μ'
theorem RepM_fnd {A : Ab} {μ : Mem} (k : Int) (h : RepM A μ) : RepM (fndA A k) (oh_up μ 22 0 4 k) := by
  obtain ⟨h1, h2, h3, h4, h5, h6, h7⟩ := h
  have hrow : ∀ s m, ¬ s = 22 → oh_up μ 22 0 4 k s m = μ s m := fun s m hs => funext fun j => oh_up_o (fun q => hs q.1)
  have ea : ∀ i, ¬ i = 2 → fndA A k i = A i := fun i hi => up2_r hi
  have e2 : ∀ j, ¬ j = 4 → fndA A k 2 j = A 2 j := fun j hj => up2_o (fun q => hj q.2)
  refine ⟨⟨?_, ?_, ?_⟩, RMt_cg h2 (ea 0 (by decide)) (ea 1 (by decide)) (e2 0 (by decide)) (e2 1 (by decide)) (hrow _ _ (by decide)) (hrow _ _ (by decide)), RMo_cg h3 (ea 3 (by decide)) (hrow _ _ (by decide)), RMw_cg h4 (ea 4 (by decide)) (hrow _ _ (by decide)), RMv_cg h5 (e2 3 (by decide)) (ea 5 (by decide)) (ea 6 (by decide)) (hrow _ _ (by decide)), RMs_cg h6 (ea 7 (by decide)) (ea 8 (by decide)) (fun s => ea _ (by omega)) (hrow _ _ (by decide)) (hrow _ _ (by decide)) (hrow _ _ (by decide)), by rw [hrow _ _ (by decide)]; exact h7⟩
  · rw [oh_up_s]
    exact up2_s.symm
  · rw [oh_up_o (by omega), e2 2 (by decide)]
    exact h1.2.1
  · rw [oh_up_o (by omega), e2 3 (by decide)]
    exact h1.2.2
def T_X5_setLaw : Tr := tM1 s_setLaw
theorem ok_X5_setLaw : oh_Ok (pg_X5_setLaw T_X5_in) 3 T_X5_setLaw := by
  refine tO1_ok fun n v μ Post G hG hn hv hM h => ?_
  obtain rfl := n22 hn
  obtain ⟨A, hV, hR, h⟩ := h
  refine oh_go hG [] 40 ?_
  refine And.intro ?_ trivial
  refine And.intro (fun x => ⟨fun _ => ?_, fun y => absurd (by decide) y⟩) (fun x => ⟨fun y => absurd rfl y, fun _ => ?_⟩)
  · have e : s_setLaw A v = (A 2 2, up2 A 2 2 v) := if_neg (by omega)
    rw [e] at h
    dsimp only at h
    obtain ⟨h1, h2, h3, h4, h5, h6, h7⟩ := hR
    show Post (some (oI (μ 22 0 13))) (oh_up μ 22 0 13 v)
    rw [h1.2.1]
    have hrow : ∀ s m, ¬ s = 22 → oh_up μ 22 0 13 v s m = μ s m := fun s m hs => funext fun j => oh_up_o (fun q => hs q.1)
    have ea : ∀ i, ¬ i = 2 → up2 A 2 2 v i = A i := fun i hi => up2_r hi
    have e2 : ∀ j, ¬ j = 2 → up2 A 2 2 v 2 j = A 2 j := fun j hj => up2_o (fun q => hj q.2)
    refine h _ ⟨⟨?_, ?_, ?_⟩, RMt_cg h2 (ea 0 (by decide)) (ea 1 (by decide)) (e2 0 (by decide)) (e2 1 (by decide)) (hrow _ _ (by decide)) (hrow _ _ (by decide)), RMo_cg h3 (ea 3 (by decide)) (hrow _ _ (by decide)), RMw_cg h4 (ea 4 (by decide)) (hrow _ _ (by decide)), RMv_cg h5 (e2 3 (by decide)) (ea 5 (by decide)) (ea 6 (by decide)) (hrow _ _ (by decide)), RMs_cg h6 (ea 7 (by decide)) (ea 8 (by decide)) (fun s => ea _ (by omega)) (hrow _ _ (by decide)) (hrow _ _ (by decide)) (hrow _ _ (by decide)), by rw [hrow _ _ (by decide)]; exact h7⟩ (FrM_up (by decide))
    · rw [oh_up_o (by omega), e2 4 (by decide)]
      exact h1.1
    · rw [oh_up_s]
      exact up2_s.symm
    · rw [oh_up_o (by omega), e2 3 (by decide)]
      exact h1.2.2
  · have e : s_setLaw A v = (-2, A) := if_pos (by omega)
    rw [e] at h
    exact h μ hR FrM_rf
/-- an act on one of the rows HOMES, WORTHS -/
theorem RepM_ow {A A' : Ab} {μ μ' : Mem} (h : RepM A μ) (ea : ∀ i, ¬ i = 3 → ¬ i = 4 → A' i = A i) (hrow : ∀ s m, ¬ s = 32 → ¬ s = 33 → μ' s m = μ s m) (ho : RMo A' μ') (hw : RMw A' μ') : RepM A' μ' := by
  obtain ⟨h1, h2, h3, h4, h5, h6, h7⟩ := h
  refine ⟨RMh_cg h1 ?_ (hrow _ _ (by decide) (by decide)), RMt_cg h2 (ea 0 (by decide) (by decide)) (ea 1 (by decide) (by decide)) (by rw [ea 2 (by decide) (by decide)]) (by rw [ea 2 (by decide) (by decide)]) (hrow _ _ (by decide) (by decide)) (hrow _ _ (by decide) (by decide)), ho, hw, RMv_cg h5 (by rw [ea 2 (by decide) (by decide)]) (ea 5 (by decide) (by decide)) (ea 6 (by decide) (by decide)) (hrow _ _ (by decide) (by decide)), RMs_cg h6 (ea 7 (by decide) (by decide)) (ea 8 (by decide) (by decide)) (fun s => ea _ (by omega) (by omega)) (hrow _ _ (by decide) (by decide)) (hrow _ _ (by decide) (by decide)) (hrow _ _ (by decide) (by decide)), by rw [hrow _ _ (by decide) (by decide)]; exact h7⟩
  rw [ea 2 (by decide) (by decide)]
  exact ⟨rfl, rfl, rfl⟩
def T_X5_home : Tr := tM2 s_home
theorem ok_X5_home : oh_Ok (pg_X5_home T_X5_isBody T_X5_in) 4 T_X5_home := by
  refine tO2_ok fun n b p μ Post G hG hn hb hp hM h => ?_
  obtain rfl := n22 hn
  obtain ⟨A, hV, hR, h⟩ := h
  have hbad : ¬ (0 ≤ b ∧ b < 6) ∨ ¬ (0 ≤ p ∧ p < 10) → Post (some (oI (-2))) μ := fun x => by
    have e : s_home A b p = (-2, A) := if_pos x
    rw [e] at h
    exact h μ hR FrM_rf
  refine oh_go hG [] 60 ?_
  refine And.intro ?_ trivial
  refine And.intro (fun x => ?_) (fun x => ⟨fun _ => hbad (by omega), fun y => absurd rfl y⟩)
  refine And.intro (fun y => absurd y (by decide)) (fun _ => ?_)
  refine And.intro ?_ trivial
  refine And.intro (fun z => ?_) (fun z => ⟨fun y => absurd rfl y, fun _ => hbad (by omega)⟩)
  refine And.intro (fun _ => ?_) (fun y => absurd (by decide) y)
  have e : s_home A b p = (A 3 b, up2 A 3 b p) := if_neg (by omega)
  rw [e] at h
  dsimp only at h
  refine And.intro (by omega) ?_
  refine And.intro (by omega) ?_
  rw [hR.2.2.1 b (by omega) (by omega)]
  refine h _ (RepM_ow hR (fun i i3 i4 => up2_r i3) (fun s m s1 s2 => funext fun j => oh_up_o (fun q => s1 q.1)) (fun j a c => ?_) (fun j a c => ?_)) (FrM_up (by decide))
  · by_cases e : j = b
    · rw [e, oh_up_s, up2_s]
    · rw [oh_up_o (fun q => e q.2.2), up2_o (fun q => e q.2)]
      exact hR.2.2.1 j a c
  · rw [oh_up_o (by omega), up2_o (by omega)]
    exact hR.2.2.2.1 j a c
def T_X5_worth : Tr := tM3 s_worth
theorem ok_X5_worth : oh_Ok (pg_X5_worth T_X5_isBody T_X5_isHour T_X5_in) 5 T_X5_worth := by
  refine tO3_ok fun n p hh v μ Post G hG hn hp hh0 hv hM h => ?_
  obtain rfl := n22 hn
  obtain ⟨A, hV, hR, h⟩ := h
  have hbad : ¬ ((0 ≤ p ∧ p < 6) ∧ 0 ≤ hh ∧ hh < 24) ∨ ¬ (0 ≤ v ∧ v < 10) → Post (some (oI (-2))) μ := fun x => by
    have e : s_worth A p hh v = (-2, A) := if_pos x
    rw [e] at h
    exact h μ hR FrM_rf
  refine oh_go hG [] 60 ?_
  refine And.intro ?_ trivial
  refine And.intro (fun x => ?_) (fun x => ⟨fun _ => hbad (by omega), fun y => absurd rfl y⟩)
  refine And.intro (fun y => absurd y (by decide)) (fun _ => ?_)
  refine And.intro ?_ trivial
  refine And.intro (fun w => ?_) (fun w => ⟨fun _ => hbad (by omega), fun y => absurd rfl y⟩)
  refine And.intro (fun y => absurd y (by decide)) (fun _ => ?_)
  refine And.intro ?_ trivial
  refine And.intro (fun z => ?_) (fun z => ⟨fun y => absurd rfl y, fun _ => hbad (by omega)⟩)
  refine And.intro (fun _ => ?_) (fun y => absurd (by decide) y)
  have e : s_worth A p hh v = (A 4 (p * 24 + hh), up2 A 4 (p * 24 + hh) v) := if_neg (by omega)
  rw [e] at h
  dsimp only at h
  have ec : 24 * p + hh = p * 24 + hh := by omega
  refine And.intro (by omega) ?_
  refine And.intro (by omega) ?_
  refine And.intro (by omega) ?_
  refine And.intro (by omega) ?_
  refine And.intro (by omega) ?_
  refine And.intro (by omega) ?_
  rw [ec, hR.2.2.2.1 _ (by omega) (by omega)]
  refine h _ (RepM_ow hR (fun i i3 i4 => up2_r i4) (fun s m s1 s2 => funext fun j => oh_up_o (fun q => s2 q.1)) (fun j a c => ?_) (fun j a c => ?_)) (FrM_up (by decide))
  · rw [oh_up_o (by omega), up2_o (by omega)]
    exact hR.2.2.1 j a c
  · by_cases e : j = p * 24 + hh
    · rw [e, oh_up_s, up2_s]
    · rw [oh_up_o (fun q => e q.2.2), up2_o (fun q => e q.2)]
      exact hR.2.2.2.1 j a c
def T_X5_forget : Tr := tM0 s_forget
theorem ok_X5_forget : oh_Ok pg_X5_forget 2 T_X5_forget := by
  refine tO0_ok fun n μ Post G hG hn hM h => ?_
  obtain rfl := n22 hn
  obtain ⟨A, hV, hR, h⟩ := h
  unfold s_forget at h
  dsimp only at h
  obtain ⟨h1, h2, h3, h4, h5, h6, h7⟩ := hR
  refine oh_go hG [] 60 ?_
  show Post (some (oI (μ 22 0 23))) (oh_up μ 22 0 23 0)
  rw [h1.2.2]
  have hrow : ∀ s m, ¬ s = 22 → oh_up μ 22 0 23 0 s m = μ s m := fun s m hs => funext fun j => oh_up_o (fun q => hs q.1)
  have ea : ∀ i, ¬ i = 2 → up2 A 2 3 0 i = A i := fun i hi => up2_r hi
  have e2 : ∀ j, ¬ j = 3 → up2 A 2 3 0 2 j = A 2 j := fun j hj => up2_o (fun q => hj q.2)
  refine h _ ⟨⟨?_, ?_, ?_⟩, RMt_cg h2 (ea 0 (by decide)) (ea 1 (by decide)) (e2 0 (by decide)) (e2 1 (by decide)) (hrow _ _ (by decide)) (hrow _ _ (by decide)), RMo_cg h3 (ea 3 (by decide)) (hrow _ _ (by decide)), RMw_cg h4 (ea 4 (by decide)) (hrow _ _ (by decide)), fun j a b => ?_, RMs_cg h6 (ea 7 (by decide)) (ea 8 (by decide)) (fun s => ea _ (by omega)) (hrow _ _ (by decide)) (hrow _ _ (by decide)) (hrow _ _ (by decide)), by rw [hrow _ _ (by decide)]; exact h7⟩ (FrM_up (by decide))
  · rw [oh_up_o (by omega), e2 4 (by decide)]
    exact h1.1
  · rw [oh_up_o (by omega), e2 2 (by decide)]
    exact h1.2.1
  · rw [oh_up_s, up2_s]
  · rw [up2_s] at b
    omega
def T_X5_seen : Tr := tM3 s_seen
theorem ok_X5_seen : oh_Ok (pg_X5_seen T_X5_isBody T_X5_isHour T_X5_in) 4 T_X5_seen := by
  refine tO3_ok fun n b hh d μ Post G hG hn hb hh0 hd hM h => ?_
  obtain rfl := n22 hn
  obtain ⟨A, hV, hR, h⟩ := h
  have hbad : ¬ ((0 ≤ b ∧ b < 6) ∧ 0 ≤ hh ∧ hh < 24) ∨ ¬ (0 ≤ d ∧ d < 5) → Post (some (oI (-2))) μ := fun x => by
    have e : s_seen A b hh d = (-2, A) := if_pos x
    rw [e] at h
    exact h μ hR FrM_rf
  refine oh_go hG [] 60 ?_
  refine And.intro ?_ trivial
  refine And.intro (fun x => ?_) (fun x => ⟨fun _ => hbad (by omega), fun y => absurd rfl y⟩)
  refine And.intro (fun y => absurd y (by decide)) (fun _ => ?_)
  refine And.intro ?_ trivial
  refine And.intro (fun w => ?_) (fun w => ⟨fun _ => hbad (by omega), fun y => absurd rfl y⟩)
  refine And.intro (fun y => absurd y (by decide)) (fun _ => ?_)
  refine And.intro ?_ trivial
  refine And.intro (fun z => ?_) (fun z => ⟨fun y => absurd rfl y, fun _ => hbad (by omega)⟩)
  refine And.intro (fun _ => ?_) (fun y => absurd (by decide) y)
  have z : 0 ≤ d ∧ d ≤ 4 := z
  have e : s_seen A b hh d = if 8 ≤ A 2 3 then (-4, A) else (A 2 3 + 1, up2 (up2 (up2 A 5 (A 2 3) (b * 24 + hh)) 6 (A 2 3) d) 2 3 (A 2 3 + 1)) := if_neg (by omega)
  rw [e] at h
  obtain ⟨h1, h2, h3, h4, h5, h6, h7⟩ := id hR
  have v1 := h1.2.2
  have v2 := hV.2.2.2.2.1.1
  refine And.intro (fun w2 => ?_) (fun w2 => ?_)
  · rw [if_neg (by omega)] at h
    dsimp only at h
    have c1 : ∀ x : Int, oh_up μ 41 0 (3 * μ 22 0 23) x 22 0 23 = μ 22 0 23 := fun x => oh_up_o (fun q => absurd q.1 (by decide))
    have c2 : ∀ x y : Int, oh_up (oh_up μ 41 0 (3 * μ 22 0 23) x) 41 0 (3 * μ 22 0 23 + 1) y 22 0 23 = μ 22 0 23 := fun x y => by rw [oh_up_o (fun q => absurd q.1 (by decide)), c1 x]
    have c3 : ∀ x y t : Int, oh_up (oh_up (oh_up μ 41 0 (3 * μ 22 0 23) x) 41 0 (3 * μ 22 0 23 + 1) y) 41 0 (3 * μ 22 0 23 + 2) t 22 0 23 = μ 22 0 23 := fun x y t => by rw [oh_up_o (fun q => absurd q.1 (by decide)), c2 x y]
    refine And.intro (by omega) ?_
    refine And.intro (by omega) ?_
    refine And.intro (by rw [c1]; omega) ?_
    rw [c1]
    refine And.intro (by omega) ?_
    refine And.intro (by omega) ?_
    refine And.intro (by rw [c2]; omega) ?_
    rw [c2]
    refine And.intro (by omega) ?_
    refine And.intro (by omega) ?_
    refine And.intro (by rw [c3]; omega) ?_
    rw [c3]
    show Post (some (oI (oh_up _ 22 0 23 (μ 22 0 23 + 1) 22 0 23))) _
    rw [oh_up_s, v1]
    have ea : ∀ i, ¬ i = 2 → ¬ i = 5 → ¬ i = 6 → up2 (up2 (up2 A 5 (A 2 3) (b * 24 + hh)) 6 (A 2 3) d) 2 3 (A 2 3 + 1) i = A i := fun i i2 i5 i6 => by rw [up2_r i2, up2_r i6, up2_r i5]
    have e2 : ∀ j, ¬ j = 3 → up2 (up2 (up2 A 5 (A 2 3) (b * 24 + hh)) 6 (A 2 3) d) 2 3 (A 2 3 + 1) 2 j = A 2 j := fun j hj => by rw [up2_o (fun q => hj q.2), up2_o (fun q => absurd q.1 (by decide)), up2_o (fun q => absurd q.1 (by decide))]
    have e5 : ∀ j, up2 (up2 (up2 A 5 (A 2 3) (b * 24 + hh)) 6 (A 2 3) d) 2 3 (A 2 3 + 1) 5 j = if j = A 2 3 then b * 24 + hh else A 5 j := fun j => by
      rw [up2_o (fun q => absurd q.1 (by decide)), up2_o (fun q => absurd q.1 (by decide))]
      by_cases e : j = A 2 3
      · rw [if_pos e, e, up2_s]
      · rw [if_neg e, up2_o (fun q => e q.2)]
    have e6 : ∀ j, up2 (up2 (up2 A 5 (A 2 3) (b * 24 + hh)) 6 (A 2 3) d) 2 3 (A 2 3 + 1) 6 j = if j = A 2 3 then d else A 6 j := fun j => by
      rw [up2_o (fun q => absurd q.1 (by decide))]
      by_cases e : j = A 2 3
      · rw [if_pos e, e, up2_s]
      · rw [if_neg e, up2_o (fun q => e q.2), up2_o (fun q => absurd q.1 (by decide))]
    have hrow : ∀ s m, ¬ s = 22 → ¬ s = 41 → oh_up (oh_up (oh_up (oh_up μ 41 0 (3 * A 2 3) b) 41 0 (3 * A 2 3 + 1) hh) 41 0 (3 * A 2 3 + 2) d) 22 0 23 (A 2 3 + 1) s m = μ s m := fun s m s1 s2 => funext fun j => by rw [oh_up_o (fun q => s1 q.1), oh_up_o (fun q => s2 q.1), oh_up_o (fun q => s2 q.1), oh_up_o (fun q => s2 q.1)]
    refine h _ ⟨⟨?_, ?_, ?_⟩, RMt_cg h2 (ea 0 (by decide) (by decide) (by decide)) (ea 1 (by decide) (by decide) (by decide)) (e2 0 (by decide)) (e2 1 (by decide)) (hrow _ _ (by decide) (by decide)) (hrow _ _ (by decide) (by decide)), RMo_cg h3 (ea 3 (by decide) (by decide) (by decide)) (hrow _ _ (by decide) (by decide)), RMw_cg h4 (ea 4 (by decide) (by decide) (by decide)) (hrow _ _ (by decide) (by decide)), fun j a c => ?_, RMs_cg h6 (ea 7 (by decide) (by decide) (by decide)) (ea 8 (by decide) (by decide) (by decide)) (fun s => ea _ (by omega) (by omega) (by omega)) (hrow _ _ (by decide) (by decide)) (hrow _ _ (by decide) (by decide)) (hrow _ _ (by decide) (by decide)), by rw [hrow _ _ (by decide) (by decide)]; exact h7⟩ (fun s m hs => hrow s m (by omega) (by omega))
    · rw [e2 4 (by decide), oh_up_o (by omega), oh_up_o (by omega), oh_up_o (by omega), oh_up_o (by omega)]
      exact h1.1
    · rw [e2 2 (by decide), oh_up_o (by omega), oh_up_o (by omega), oh_up_o (by omega), oh_up_o (by omega)]
      exact h1.2.1
    · rw [oh_up_s, up2_s]
    · rw [up2_s] at c
      rw [e5, e6]
      by_cases e : j = A 2 3
      · rw [if_pos e, if_pos e, e]
        refine ⟨?_, ?_, ?_⟩
        · rw [oh_up_o (by omega), oh_up_o (by omega), oh_up_o (by omega), oh_up_s]
          omega
        · rw [oh_up_o (by omega), oh_up_o (by omega), oh_up_s]
          omega
        · rw [oh_up_o (by omega), oh_up_s]
      · rw [if_neg e, if_neg e, oh_up_o (by omega), oh_up_o (by omega), oh_up_o (by omega), oh_up_o (by omega), oh_up_o (by omega), oh_up_o (by omega), oh_up_o (by omega), oh_up_o (by omega), oh_up_o (by omega), oh_up_o (by omega), oh_up_o (by omega), oh_up_o (by omega)]
        exact h5 j a (by omega)
  · rw [if_pos (by omega)] at h
    exact h μ hR FrM_rf
