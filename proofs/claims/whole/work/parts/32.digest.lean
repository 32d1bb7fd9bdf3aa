/-! THE DIGEST -/
def foP (g : Int → Int → Int) : Nat → Int → Int → Int
  | 0, _, x => x
  | k + 1, c, x => foP g k (c + 1) (g c x)
theorem q_free (A : Ab) (b : Int) : (s_free A b).2 = A := by unfold s_free; split <;> rfl
theorem q_holds (A : Ab) (b : Int) : (s_holds A b).2 = A := by unfold s_holds; split <;> rfl
theorem q_owns (A : Ab) (b h : Int) : (s_owns A b h).2 = A := by unfold s_owns; split <;> rfl
theorem q_acts (A : Ab) (b h : Int) : (s_acts A b h).2 = A := by unfold s_acts; split <;> rfl
theorem q_deep (A : Ab) (b h : Int) : (s_deep A b h).2 = A := by unfold s_deep; split <;> rfl
theorem q_body (A : Ab) (b h w : Int) : (s_body A b h w).2 = A := by unfold s_body; split <;> rfl
theorem q_soonest (A : Ab) (b h : Int) : (s_soonest A b h).2 = A := by unfold s_soonest; split <;> rfl
theorem q_fewest (A : Ab) (b h w : Int) : (s_fewest A b h w).2 = A := by unfold s_fewest; split <;> rfl
theorem q_run (A : Ab) (b h : Int) : (s_run A b h).2 = A := by unfold s_run; split <;> rfl
theorem q_heir (A : Ab) (b h : Int) : (s_heir A b h).2 = A := by unfold s_heir; split <;> rfl
theorem q_count (A : Ab) (b : Int) : (s_count A b).2 = A := by unfold s_count; split <;> rfl
theorem q_fault (A : Ab) (b : Int) : (s_fault A b).2 = A := by unfold s_fault; split <;> rfl
theorem q_wronged (A : Ab) (b : Int) : (s_wronged A b).2 = A := by unfold s_wronged; split <;> rfl
theorem q_met (A : Ab) (b h : Int) : (s_met A b h).2 = A := by unfold s_met; split <;> rfl
theorem q_slips (A : Ab) (b h : Int) : (s_slips A b h).2 = A := by unfold s_slips; split <;> rfl
theorem q_frees (A : Ab) (b : Int) : (s_frees A b).2 = A := by unfold s_frees; split <;> rfl
theorem Q0 {f : Ab → Int × Ab} {A : Ab} {μ : Mem} {Post : Po} (hq : (f A).2 = A) (hR : RepC A μ) (h : ∀ μ', RepC A μ' → FrC μ μ' → Post (some (oI (f A).1)) μ') : tC0 f [oR 13 0] μ Post := ⟨A, hR, fun μ' k1 k2 => h μ' (by rw [hq] at k1; exact k1) k2⟩
theorem Q1 {f : Ab → Int → Int × Ab} {A : Ab} {a : Int} {μ : Mem} {Post : Po} (hq : (f A a).2 = A) (hR : RepC A μ) (h : ∀ μ', RepC A μ' → FrC μ μ' → Post (some (oI (f A a).1)) μ') : tC1 f [oR 13 0, oI a] μ Post := ⟨A, hR, fun μ' k1 k2 => h μ' (by rw [hq] at k1; exact k1) k2⟩
theorem Q2 {f : Ab → Int → Int → Int × Ab} {A : Ab} {a b : Int} {μ : Mem} {Post : Po} (hq : (f A a b).2 = A) (hR : RepC A μ) (h : ∀ μ', RepC A μ' → FrC μ μ' → Post (some (oI (f A a b).1)) μ') : tC2 f [oR 13 0, oI a, oI b] μ Post := ⟨A, hR, fun μ' k1 k2 => h μ' (by rw [hq] at k1; exact k1) k2⟩
theorem Q3 {f : Ab → Int → Int → Int → Int × Ab} {A : Ab} {a b c : Int} {μ : Mem} {Post : Po} (hq : (f A a b c).2 = A) (hR : RepC A μ) (h : ∀ μ', RepC A μ' → FrC μ μ' → Post (some (oI (f A a b c).1)) μ') : tC3 f [oR 13 0, oI a, oI b, oI c] μ Post := ⟨A, hR, fun μ' k1 k2 => h μ' (by rw [hq] at k1; exact k1) k2⟩
/-- what an hour of a person tells -/
noncomputable def tel (A : Ab) (p t x : Int) : Int := foP (fun c x => oh_mix x (s_body A p t c).1) 3 0 (oh_mix (oh_mix (oh_mix x (s_owns A p t).1) (s_acts A p t).1) (s_deep A p t).1)
noncomputable def mpr (A : Ab) (p x : Int) : Int := oh_mix (foP (fun c x => oh_mix x (s_run A p c).1) 4 0 (oh_mix (oh_mix (oh_mix (foP (fun c x => tel A p (oh_nthI [0, 9, 20] c) x) 3 0 (oh_mix (oh_mix x (s_free A p).1) (s_holds A p).1)) (s_soonest A p 9).1) (s_fewest A p 9 0).1) (s_fewest A p 9 1).1)) (s_heir A p 0).1
def T_X4_mixPerson : Tr := tOJ1 13 fun n x p μ Post => ∃ A, RepC A μ ∧ ∀ μ', RepC A μ' → FrC μ μ' → Post (some (oL (mpr A p x))) μ'
theorem ok_X4_mixPerson : oh_Ok (pg_X4_mixPerson T_X4_free T_X4_mix T_X4_holds T_X4_owns T_X4_acts T_X4_deep T_X4_body T_X4_soonest T_X4_fewest T_X4_run T_X4_heir) 9 T_X4_mixPerson := by
  refine tOJ1_ok fun n x p μ Post G hG hn hx hp hM h => ?_
  obtain rfl := n13 hn
  obtain ⟨A, hR, h⟩ := h
  unfold mpr at h
  have k178 : ∀ (k : Nat) (c y : Int) (μ1 : Mem), 0 ≤ c → c + k = 4 → RepC A μ1 → FrC μ μ1 → (∀ μ', RepC A μ' → FrC μ μ' → Post (some (oL (oh_mix (foP (fun c x => oh_mix x (s_run A p c).1) k c y) (s_heir A p 0).1))) μ') → G 178 [some (oR 13 0), some (oL x), none, some (oI p), some (oL y), none, some (oI c), none, none] [] μ1 := by
    intro k
    induction k with
    | zero =>
      intro c y μ1 c0 c1 g1 g2 hp
      refine oh_go hG [(178, 7)] 40 ?_
      refine And.intro (fun _ => ?_) (fun q => absurd q (by omega))
      refine And.intro (Q2 (q_heir _ _ _) g1 (fun μ2 k1 k2 => ?_)) trivial
      refine And.intro ?_ trivial
      exact hp μ2 k1 (FrC_tr g2 k2)
    | succ k ih =>
      intro c y μ1 c0 c1 g1 g2 hp
      refine oh_go hG [(178, 7)] 40 ?_
      refine And.intro (fun q => absurd q (by omega)) (fun _ => ?_)
      refine And.intro (Q2 (q_run _ _ _) g1 (fun μ2 k1 k2 => ?_)) trivial
      refine And.intro ?_ trivial
      refine And.intro (by omega) ?_
      exact ih (c + 1) _ μ2 (by omega) (by omega) k1 (FrC_tr g2 k2) hp
  have k93 : ∀ (k : Nat) (c y i t : Int) (μ1 : Mem), 0 ≤ c → c + k = 3 → (0 ≤ i ∧ i < 3) → RepC A μ1 → FrC μ μ1 → (∀ μ', RepC A μ' → FrC μ μ' → G 28 [some (oR 13 0), some (oL x), none, some (oI p), some (oL (foP (fun c x => oh_mix x (s_body A p t c).1) k c y)), none, some (oI (i + 1)), none, none] [] μ') → G 93 [some (oR 13 0), some (oL x), none, some (oI p), some (oL y), none, some (oI i), some (oI t), some (oI c)] [] μ1 := by
    intro k
    induction k with
    | zero =>
      intro c y i t μ1 c0 c1 hi g1 g2 hp
      refine oh_go hG [(28, 7), (93, 9)] 40 ?_
      refine And.intro (fun _ => ?_) (fun q => absurd q (by omega))
      refine And.intro (by omega) ?_
      exact hp μ1 g1 g2
    | succ k ih =>
      intro c y i t μ1 c0 c1 hi g1 g2 hp
      refine oh_go hG [(28, 7), (93, 9)] 40 ?_
      refine And.intro (fun q => absurd q (by omega)) (fun _ => ?_)
      refine And.intro (Q3 (q_body _ _ _ _) g1 (fun μ2 k1 k2 => ?_)) trivial
      refine And.intro ?_ trivial
      refine And.intro (by omega) ?_
      exact ih (c + 1) _ i t μ2 (by omega) (by omega) hi k1 (FrC_tr g2 k2) hp
  have k28 : ∀ (k : Nat) (c y : Int) (μ1 : Mem), 0 ≤ c → c + k = 3 → RepC A μ1 → FrC μ μ1 → (∀ μ', RepC A μ' → FrC μ μ' → Post (some (oL (oh_mix (foP (fun c x => oh_mix x (s_run A p c).1) 4 0 (oh_mix (oh_mix (oh_mix (foP (fun c x => tel A p (oh_nthI [0, 9, 20] c) x) k c y) (s_soonest A p 9).1) (s_fewest A p 9 0).1) (s_fewest A p 9 1).1)) (s_heir A p 0).1))) μ') → G 28 [some (oR 13 0), some (oL x), none, some (oI p), some (oL y), none, some (oI c), none, none] [] μ1 := by
    intro k
    induction k with
    | zero =>
      intro c y μ1 c0 c1 g1 g2 hp
      refine oh_go hG [(93, 9), (178, 7)] 60 ?_
      refine And.intro (fun _ => ?_) (fun q => absurd q (by show ¬ (3 ≤ c) → False; omega))
      refine And.intro (Q2 (q_soonest _ _ _) g1 (fun μ2 k1 k2 => ?_)) trivial
      refine And.intro ?_ trivial
      refine And.intro (Q3 (q_fewest _ _ _ _) k1 (fun μ3 k3 k4 => ?_)) trivial
      refine And.intro ?_ trivial
      refine And.intro (Q3 (q_fewest _ _ _ _) k3 (fun μ4 k5 k6 => ?_)) trivial
      refine And.intro ?_ trivial
      exact k178 4 0 _ μ4 (by omega) (by omega) k5 (FrC_tr g2 (FrC_tr k2 (FrC_tr k4 k6))) hp
    | succ k ih =>
      intro c y μ1 c0 c1 g1 g2 hp
      refine oh_go hG [(93, 9), (178, 7)] 60 ?_
      refine And.intro (fun q => absurd (show (3 : Int) ≤ c from q) (by omega)) (fun _ => ?_)
      refine And.intro ⟨c0, show c < 3 by omega⟩ ?_
      refine And.intro (Q2 (q_owns _ _ _) g1 (fun μ2 k1 k2 => ?_)) trivial
      refine And.intro ?_ trivial
      refine And.intro (Q2 (q_acts _ _ _) k1 (fun μ3 k3 k4 => ?_)) trivial
      refine And.intro ?_ trivial
      refine And.intro (Q2 (q_deep _ _ _) k3 (fun μ4 k5 k6 => ?_)) trivial
      refine And.intro ?_ trivial
      exact k93 3 0 _ c _ μ4 (by omega) (by omega) (by omega) k5 (FrC_tr g2 (FrC_tr k2 (FrC_tr k4 k6))) (fun μ5 l1 l2 => ih (c + 1) _ μ5 (by omega) (by omega) l1 l2 hp)
  refine oh_go hG [(28, 7)] 40 ?_
  refine And.intro (Q1 (q_free _ _) hR (fun μ2 k1 k2 => ?_)) trivial
  refine And.intro ?_ trivial
  refine And.intro (Q1 (q_holds _ _) k1 (fun μ3 k3 k4 => ?_)) trivial
  refine And.intro ?_ trivial
  exact k28 3 0 _ μ3 (by omega) (by omega) k3 (FrC_tr k2 k4) h
