/-! THE DIGEST -/
def foP (g : Int → Int → Int) : Nat → Int → Int → Int
  | 0, _, x => x
  | k + 1, c, x => foP g k (c + 1) (g c x)
theorem q_free (A : Ab) (b : Int) : (s_free A b).2 = A := by unfold s_free; split <;> rfl
theorem q_holds (A : Ab) (b : Int) : (s_holds A b).2 = A := by unfold s_holds; split <;> rfl
theorem q_owns (A : Ab) (b h : Int) : (s_owns A b h).2 = A := by unfold s_owns; split <;> rfl
theorem q_acts (A : Ab) (b h : Int) : (s_acts A b h).2 = A := by unfold s_acts; split <;> rfl
theorem q_deep (A : Ab) (b h : Int) : (s_deep A b h).2 = A := by unfold s_deep; split <;> rfl
theorem q_body (A : Ab) (b h w : Int) : (s_body A b h w).2 = A := by unfold s_body; split <;> rfl
theorem q_soonest (A : Ab) (b h : Int) : (s_soonest A b h).2 = A := by unfold s_soonest; split <;> rfl
theorem q_fewest (A : Ab) (b h w : Int) : (s_fewest A b h w).2 = A := by unfold s_fewest; split <;> rfl
theorem q_run (A : Ab) (b h : Int) : (s_run A b h).2 = A := by unfold s_run; split <;> rfl
theorem q_heir (A : Ab) (b h : Int) : (s_heir A b h).2 = A := by unfold s_heir; split <;> rfl
theorem q_count (A : Ab) (b : Int) : (s_count A b).2 = A := by unfold s_count; split <;> rfl
theorem q_fault (A : Ab) (b : Int) : (s_fault A b).2 = A := by unfold s_fault; split <;> rfl
theorem q_wronged (A : Ab) (b : Int) : (s_wronged A b).2 = A := by unfold s_wronged; split <;> rfl
theorem q_met (A : Ab) (b h : Int) : (s_met A b h).2 = A := by unfold s_met; split <;> rfl
theorem q_slips (A : Ab) (b h : Int) : (s_slips A b h).2 = A := by unfold s_slips; split <;> rfl
theorem q_frees (A : Ab) (b : Int) : (s_frees A b).2 = A := by unfold s_frees; split <;> rfl
theorem Q0 {f : Ab → Int × Ab} {A : Ab} {μ : Mem} {Post : Po} (hq : (f A).2 = A) (hR : RepC A μ) (h : ∀ μ', RepC A μ' → FrC μ μ' → Post (some (oI (f A).1)) μ') : tC0 f [oR 13 0] μ Post := ⟨A, hR, fun μ' k1 k2 => h μ' (by rw [hq] at k1; exact k1) k2⟩
theorem Q1 {f : Ab → Int → Int × Ab} {A : Ab} {a : Int} {μ : Mem} {Post : Po} (hq : (f A a).2 = A) (hR : RepC A μ) (h : ∀ μ', RepC A μ' → FrC μ μ' → Post (some (oI (f A a).1)) μ') : tC1 f [oR 13 0, oI a] μ Post := ⟨A, hR, fun μ' k1 k2 => h μ' (by rw [hq] at k1; exact k1) k2⟩
theorem Q2 {f : Ab → Int → Int → Int × Ab} {A : Ab} {a b : Int} {μ : Mem} {Post : Po} (hq : (f A a b).2 = A) (hR : RepC A μ) (h : ∀ μ', RepC A μ' → FrC μ μ' → Post (some (oI (f A a b).1)) μ') : tC2 f [oR 13 0, oI a, oI b] μ Post := ⟨A, hR, fun μ' k1 k2 => h μ' (by rw [hq] at k1; exact k1) k2⟩
theorem Q3 {f : Ab → Int → Int → Int → Int × Ab} {A : Ab} {a b c : Int} {μ : Mem} {Post : Po} (hq : (f A a b c).2 = A) (hR : RepC A μ) (h : ∀ μ', RepC A μ' → FrC μ μ' → Post (some (oI (f A a b c).1)) μ') : tC3 f [oR 13 0, oI a, oI b, oI c] μ Post := ⟨A, hR, fun μ' k1 k2 => h μ' (by rw [hq] at k1; exact k1) k2⟩
/-- what an hour of a person tells -/
noncomputable def tel (A : Ab) (p t x : Int) : Int := foP (fun c x => oh_mix x (s_body A p t c).1) 3 0 (oh_mix (oh_mix (oh_mix x (s_owns A p t).1) (s_acts A p t).1) (s_deep A p t).1)
noncomputable def mpr (A : Ab) (p x : Int) : Int := oh_mix (foP (fun c x => oh_mix x (s_run A p c).1) 4 0 (oh_mix (oh_mix (oh_mix (foP (fun c x => tel A p (oh_nthI [0, 9, 20] c) x) 3 0 (oh_mix (oh_mix x (s_free A p).1) (s_holds A p).1)) (s_soonest A p 9).1) (s_fewest A p 9 0).1) (s_fewest A p 9 1).1)) (s_heir A p 0).1
def T_X4_mixPerson : Tr := tOJ1 13 fun n x p μ Post => ∃ A, RepC A μ ∧ ∀ μ', RepC A μ' → FrC μ μ' → Post (some (oL (mpr A p x))) μ'
theorem ok_X4_mixPerson : oh_Ok (pg_X4_mixPerson T_X4_free T_X4_mix T_X4_holds T_X4_owns T_X4_acts T_X4_deep T_X4_body T_X4_soonest T_X4_fewest T_X4_run T_X4_heir) 9 T_X4_mixPerson := by
  refine tOJ1_ok fun n x p μ Post G hG hn hx hp hM h => ?_
  obtain rfl := n13 hn
  obtain ⟨A, hR, h⟩ := h
  unfold mpr at h
  have k178 : ∀ (k : Nat) (c y : Int) (μ1 : Mem), 0 ≤ c → c + k = 4 → RepC A μ1 → FrC μ μ1 → (∀ μ', RepC A μ' → FrC μ μ' → Post (some (oL (oh_mix (foP (fun c x => oh_mix x (s_run A p c).1) k c y) (s_heir A p 0).1))) μ') → G 178 [some (oR 13 0), some (oL x), none, some (oI p), some (oL y), none, some (oI c), none, none] [] μ1 := by
    intro k
    induction k with
    | zero =>
      intro c y μ1 c0 c1 g1 g2 hp
      refine oh_go hG [(178, 7)] 40 ?_
      refine And.intro (fun _ => ?_) (fun q => absurd q (by omega))
      refine And.intro (Q2 (q_heir _ _ _) g1 (fun μ2 k1 k2 => ?_)) trivial
      refine And.intro ?_ trivial
      exact hp μ2 k1 (FrC_tr g2 k2)
    | succ k ih =>
      intro c y μ1 c0 c1 g1 g2 hp
      refine oh_go hG [(178, 7)] 40 ?_
      refine And.intro (fun q => absurd q (by omega)) (fun _ => ?_)
      refine And.intro (Q2 (q_run _ _ _) g1 (fun μ2 k1 k2 => ?_)) trivial
      refine And.intro ?_ trivial
      refine And.intro (by omega) ?_
      exact ih (c + 1) _ μ2 (by omega) (by omega) k1 (FrC_tr g2 k2) hp
  have k93 : ∀ (k : Nat) (c y i t : Int) (μ1 : Mem), 0 ≤ c → c + k = 3 → (0 ≤ i ∧ i < 3) → RepC A μ1 → FrC μ μ1 → (∀ μ', RepC A μ' → FrC μ μ' → G 28 [some (oR 13 0), some (oL x), none, some (oI p), some (oL (foP (fun c x => oh_mix x (s_body A p t c).1) k c y)), none, some (oI (i + 1)), none, none] [] μ') → G 93 [some (oR 13 0), some (oL x), none, some (oI p), some (oL y), none, some (oI i), some (oI t), some (oI c)] [] μ1 := by
    intro k
    induction k with
    | zero =>
      intro c y i t μ1 c0 c1 hi g1 g2 hp
      refine oh_go hG [(28, 7), (93, 9)] 40 ?_
      refine And.intro (fun _ => ?_) (fun q => absurd q (by omega))
      refine And.intro (by omega) ?_
      exact hp μ1 g1 g2
    | succ k ih =>
      intro c y i t μ1 c0 c1 hi g1 g2 hp
      refine oh_go hG [(28, 7), (93, 9)] 40 ?_
      refine And.intro (fun q => absurd q (by omega)) (fun _ => ?_)
      refine And.intro (Q3 (q_body _ _ _ _) g1 (fun μ2 k1 k2 => ?_)) trivial
      refine And.intro ?_ trivial
      refine And.intro (by omega) ?_
      exact ih (c + 1) _ i t μ2 (by omega) (by omega) hi k1 (FrC_tr g2 k2) hp
  have k28 : ∀ (k : Nat) (c y : Int) (μ1 : Mem), 0 ≤ c → c + k = 3 → RepC A μ1 → FrC μ μ1 → (∀ μ', RepC A μ' → FrC μ μ' → Post (some (oL (oh_mix (foP (fun c x => oh_mix x (s_run A p c).1) 4 0 (oh_mix (oh_mix (oh_mix (foP (fun c x => tel A p (oh_nthI [0, 9, 20] c) x) k c y) (s_soonest A p 9).1) (s_fewest A p 9 0).1) (s_fewest A p 9 1).1)) (s_heir A p 0).1))) μ') → G 28 [some (oR 13 0), some (oL x), none, some (oI p), some (oL y), none, some (oI c), none, none] [] μ1 := by
    intro k
    induction k with
    | zero =>
      intro c y μ1 c0 c1 g1 g2 hp
      refine oh_go hG [(93, 9), (178, 7)] 60 ?_
      refine And.intro (fun _ => ?_) (fun q => absurd q (by show ¬ (3 ≤ c) → False; omega))
      refine And.intro (Q2 (q_soonest _ _ _) g1 (fun μ2 k1 k2 => ?_)) trivial
      refine And.intro ?_ trivial
      refine And.intro (Q3 (q_fewest _ _ _ _) k1 (fun μ3 k3 k4 => ?_)) trivial
      refine And.intro ?_ trivial
      refine And.intro (Q3 (q_fewest _ _ _ _) k3 (fun μ4 k5 k6 => ?_)) trivial
      refine And.intro ?_ trivial
      exact k178 4 0 _ μ4 (by omega) (by omega) k5 (FrC_tr g2 (FrC_tr k2 (FrC_tr k4 k6))) hp
    | succ k ih =>
      intro c y μ1 c0 c1 g1 g2 hp
      refine oh_go hG [(93, 9), (178, 7)] 60 ?_
      refine And.intro (fun q => absurd (show (3 : Int) ≤ c from q) (by omega)) (fun _ => ?_)
      refine And.intro ⟨c0, show c < 3 by omega⟩ ?_
      refine And.intro (Q2 (q_owns _ _ _) g1 (fun μ2 k1 k2 => ?_)) trivial
      refine And.intro ?_ trivial
      refine And.intro (Q2 (q_acts _ _ _) k1 (fun μ3 k3 k4 => ?_)) trivial
      refine And.intro ?_ trivial
      refine And.intro (Q2 (q_deep _ _ _) k3 (fun μ4 k5 k6 => ?_)) trivial
      refine And.intro ?_ trivial
      exact k93 3 0 _ c _ μ4 (by omega) (by omega) (by omega) k5 (FrC_tr g2 (FrC_tr k2 (FrC_tr k4 k6))) (fun μ5 l1 l2 => ih (c + 1) _ μ5 (by omega) (by omega) l1 l2 hp)
  refine oh_go hG [(28, 7)] 40 ?_
  refine And.intro (Q1 (q_free _ _) hR (fun μ2 k1 k2 => ?_)) trivial
  refine And.intro ?_ trivial
  refine And.intro (Q1 (q_holds _ _) k1 (fun μ3 k3 k4 => ?_)) trivial
  refine And.intro ?_ trivial
  exact k28 3 0 _ μ3 (by omega) (by omega) k3 (FrC_tr k2 k4) h
noncomputable def dg5 (A : Ab) (x : Int) : Int := oh_mix (oh_mix x (s_suspects A).1) (s_likely A).1
noncomputable def dg4 (A : Ab) (x : Int) : Int := dg5 A (foP (fun c x => oh_mix x (s_frees A c).1) (tE 0 A).toNat 0 (oh_mix (oh_mix (oh_mix (oh_mix (oh_mix x (s_gentlest A).1) (s_met A 0 1).1) (s_slips A 0 1).1) (s_trades A).1) (s_word A).1))
noncomputable def dg3 (A : Ab) (x : Int) : Int := dg4 A (foP (fun c x => oh_mix x (s_wronged A c).1) 3 0 x)
noncomputable def dg2 (A : Ab) (x : Int) : Int := dg3 A (foP (fun c x => mpr A c x) 6 0 (oh_mix x (s_judged A).1))
noncomputable def dg1 (A : Ab) (x : Int) : Int := dg2 A (foP (fun c x => oh_mix x (s_fault A c).1) 2 0 x)
noncomputable def dg (A : Ab) : Int := dg1 A (foP (fun c x => oh_mix x (s_count A c).1) 8 0 17)
def T_X4_digest : Tr := tO0 13 fun n μ Post => ∃ A, RepC A μ ∧ ∀ μ', RepC A μ' → FrC μ μ' → Post (some (oL (dg A))) μ'
theorem ok_X4_digest : oh_Ok (pg_X4_digest T_X4_count T_X4_mix T_X4_fault T_X4_judged T_X4_mixPerson T_X4_wronged T_X4_gentlest T_X4_met T_X4_slips T_X4_trades T_X4_word T_X3_entries T_X4_frees T_X4_suspects T_X4_likely) 5 T_X4_digest := by
  refine tO0_ok fun n μ Post G hG hn hM h => ?_
  obtain rfl := n13 hn
  obtain ⟨A, hR, h⟩ := h
  have hE := tE_rg (RepX_len hR (n := 0) (by omega))
  have k173 : ∀ (k : Nat) (c y : Int) (μ1 : Mem), 0 ≤ c → c + k = tE 0 A → RepC A μ1 → FrC μ μ1 → dg5 A (foP (fun c x => oh_mix x (s_frees A c).1) k c y) = dg A → G 173 [some (oR 13 0), some (oL y), none, some (oI (tE 0 A)), some (oI c)] [] μ1 := by
    intro k
    induction k with
    | zero =>
      intro c y μ1 c0 c1 g1 g2 hp
      rw [← hp] at h
      refine oh_go hG [(173, 5)] 40 ?_
      refine And.intro (fun _ => ?_) (fun q => absurd q (by omega))
      refine And.intro (Q0 rfl g1 (fun μ2 k1 k2 => ?_)) trivial
      refine And.intro ?_ trivial
      refine And.intro (Q0 rfl k1 (fun μ3 k3 k4 => ?_)) trivial
      refine And.intro ?_ trivial
      exact h μ3 k3 (FrC_tr g2 (FrC_tr k2 k4))
    | succ k ih =>
      intro c y μ1 c0 c1 g1 g2 hp
      refine oh_go hG [(173, 5)] 40 ?_
      refine And.intro (fun q => absurd q (by omega)) (fun _ => ?_)
      refine And.intro (Q1 (q_frees _ _) g1 (fun μ2 k1 k2 => ?_)) trivial
      refine And.intro ?_ trivial
      refine And.intro (by omega) ?_
      exact ih (c + 1) _ μ2 (by omega) (by omega) k1 (FrC_tr g2 k2) hp
  have k86 : ∀ (k : Nat) (c y : Int) (μ1 : Mem), 0 ≤ c → c + k = 3 → RepC A μ1 → FrC μ μ1 → dg4 A (foP (fun c x => oh_mix x (s_wronged A c).1) k c y) = dg A → G 86 [some (oR 13 0), some (oL y), none, some (oI c), none] [] μ1 := by
    intro k
    induction k with
    | zero =>
      intro c y μ1 c0 c1 g1 g2 hp
      refine oh_go hG [(86, 4), (173, 5)] 60 ?_
      refine And.intro (fun _ => ?_) (fun q => absurd q (by omega))
      refine And.intro (Q0 rfl g1 (fun μ2 k1 k2 => ?_)) trivial
      refine And.intro ?_ trivial
      refine And.intro (Q2 (q_met _ _ _) k1 (fun μ3 k3 k4 => ?_)) trivial
      refine And.intro ?_ trivial
      refine And.intro (Q2 (q_slips _ _ _) k3 (fun μ4 k5 k6 => ?_)) trivial
      refine And.intro ?_ trivial
      refine And.intro (Q0 rfl k5 (fun μ5 k7 k8 => ?_)) trivial
      refine And.intro ?_ trivial
      refine And.intro (Q0 rfl k7 (fun μ6 k9 k10 => ?_)) trivial
      refine And.intro ?_ trivial
      refine And.intro ⟨RepT_tq k9.1.1, ?_⟩ trivial
      rw [RepT_ents k9.1.1]
      exact k173 (tE 0 A).toNat 0 _ μ6 (by omega) (by omega) k9 (FrC_tr g2 (FrC_tr k2 (FrC_tr k4 (FrC_tr k6 (FrC_tr k8 k10))))) hp
    | succ k ih =>
      intro c y μ1 c0 c1 g1 g2 hp
      refine oh_go hG [(86, 4), (173, 5)] 60 ?_
      refine And.intro (fun q => absurd q (by omega)) (fun _ => ?_)
      refine And.intro (Q1 (q_wronged _ _) g1 (fun μ2 k1 k2 => ?_)) trivial
      refine And.intro ?_ trivial
      refine And.intro (by omega) ?_
      exact ih (c + 1) _ μ2 (by omega) (by omega) k1 (FrC_tr g2 k2) hp
  have k65 : ∀ (k : Nat) (c y : Int) (μ1 : Mem), 0 ≤ c → c + k = 6 → RepC A μ1 → FrC μ μ1 → dg3 A (foP (fun c x => mpr A c x) k c y) = dg A → G 65 [some (oR 13 0), some (oL y), none, some (oI c), none] [] μ1 := by
    intro k
    induction k with
    | zero =>
      intro c y μ1 c0 c1 g1 g2 hp
      refine oh_go hG [(65, 4), (86, 4)] 60 ?_
      refine And.intro (fun _ => ?_) (fun q => absurd q (by omega))
      exact k86 3 0 _ μ1 (by omega) (by omega) g1 g2 hp
    | succ k ih =>
      intro c y μ1 c0 c1 g1 g2 hp
      refine oh_go hG [(65, 4), (86, 4)] 60 ?_
      refine And.intro (fun q => absurd q (by omega)) (fun _ => ?_)
      refine And.intro ⟨A, g1, fun μ2 k1 k2 => ?_⟩ trivial
      refine And.intro (by omega) ?_
      exact ih (c + 1) _ μ2 (by omega) (by omega) k1 (FrC_tr g2 k2) hp
  have k31 : ∀ (k : Nat) (c y : Int) (μ1 : Mem), 0 ≤ c → c + k = 2 → RepC A μ1 → FrC μ μ1 → dg2 A (foP (fun c x => oh_mix x (s_fault A c).1) k c y) = dg A → G 31 [some (oR 13 0), some (oL y), none, some (oI c), none] [] μ1 := by
    intro k
    induction k with
    | zero =>
      intro c y μ1 c0 c1 g1 g2 hp
      refine oh_go hG [(31, 4), (65, 4)] 60 ?_
      refine And.intro (fun _ => ?_) (fun q => absurd q (by omega))
      refine And.intro (Q0 rfl g1 (fun μ2 k1 k2 => ?_)) trivial
      refine And.intro ?_ trivial
      exact k65 6 0 _ μ2 (by omega) (by omega) k1 (FrC_tr g2 k2) hp
    | succ k ih =>
      intro c y μ1 c0 c1 g1 g2 hp
      refine oh_go hG [(31, 4), (65, 4)] 60 ?_
      refine And.intro (fun q => absurd q (by omega)) (fun _ => ?_)
      refine And.intro (Q1 (q_fault _ _) g1 (fun μ2 k1 k2 => ?_)) trivial
      refine And.intro ?_ trivial
      refine And.intro (by omega) ?_
      exact ih (c + 1) _ μ2 (by omega) (by omega) k1 (FrC_tr g2 k2) hp
  have k6 : ∀ (k : Nat) (c y : Int) (μ1 : Mem), 0 ≤ c → c + k = 8 → RepC A μ1 → FrC μ μ1 → dg1 A (foP (fun c x => oh_mix x (s_count A c).1) k c y) = dg A → G 6 [some (oR 13 0), some (oL y), none, some (oI c), none] [] μ1 := by
    intro k
    induction k with
    | zero =>
      intro c y μ1 c0 c1 g1 g2 hp
      refine oh_go hG [(6, 4), (31, 4)] 60 ?_
      refine And.intro (fun _ => ?_) (fun q => absurd q (by omega))
      exact k31 2 0 _ μ1 (by omega) (by omega) g1 g2 hp
    | succ k ih =>
      intro c y μ1 c0 c1 g1 g2 hp
      refine oh_go hG [(6, 4), (31, 4)] 60 ?_
      refine And.intro (fun q => absurd q (by omega)) (fun _ => ?_)
      refine And.intro (Q1 (q_count _ _) g1 (fun μ2 k1 k2 => ?_)) trivial
      refine And.intro ?_ trivial
      refine And.intro (by omega) ?_
      exact ih (c + 1) _ μ2 (by omega) (by omega) k1 (FrC_tr g2 k2) hp
  refine oh_go hG [(6, 4)] 10 ?_
  exact k6 8 0 17 μ (by omega) (by omega) hR FrC_rf rfl
