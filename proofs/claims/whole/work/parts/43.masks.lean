/-! THE MODEL: questions of what is done -/
def T_X5_find : Tr := tO0 22 fun n μ Post => ∃ A, ValA A ∧ RepM A μ ∧ ∀ μ', Ki A μ' → Lv A (A 2 2) μ' → FrM μ μ' → Post none μ'
theorem ok_X5_find : oh_Ok (pg_X5_find T_X5_reads T_X5_lives) 1 T_X5_find := by
  refine tO0_ok fun n μ Post G hG hn hM h => ?_
  obtain rfl := n22 hn
  obtain ⟨A, hV, hR, h⟩ := h
  refine oh_go hG [] 20 ?_
  refine And.intro ⟨A, hV, hR, fun μ1 k1 k2 => ?_⟩ trivial
  obtain ⟨hK, hF⟩ := ki_rd hV hR k1 k2
  refine And.intro ⟨A, hK, by rw [(ki_law hK).1]; exact (ki_law hK).2, fun μ2 j1 j2 => ?_⟩ trivial
  rw [(ki_law hK).1] at j2
  exact h μ2 (Ki_L hK j1) j2 (FrM_tr hF (kM_Fr (kL_k j1)))
def T_X5_done : Tr := tM1 s_done
theorem ok_X5_done : oh_Ok (pg_X5_done T_X5_find T_X5_in) 2 T_X5_done := by
  refine tO1_ok fun n o μ Post G hG hn ho2 hM h => ?_
  obtain rfl := n22 hn
  obtain ⟨A, hV, hR, h⟩ := h
  unfold s_done at h
  refine oh_go hG [] 40 ?_
  refine And.intro ⟨A, hV, hR, fun μ1 hK hL hF => ?_⟩ trivial
  have hE := tE_rg (hV.1 1 (by omega)).1
  have c11 := (Rd_n hK.2.2).2
  refine And.intro (by omega) ?_
  rw [c11]
  refine And.intro ?_ trivial
  refine And.intro (fun w => ⟨fun y => absurd y (by decide), fun _ => ?_⟩) (fun w => ⟨fun _ => ?_, fun y => absurd rfl y⟩)
  · have w : 0 ≤ o ∧ o ≤ tE 1 A - 1 := w
    rw [if_pos (by omega)] at h
    refine And.intro (by omega) ?_
    rw [hL.1 o (by omega) (by omega)]
    by_cases e : dnA A (A 2 2) o = true
    · rw [if_pos e] at h ⊢
      exact ⟨fun z => absurd z (by decide), fun _ => h μ1 hK.2.1 hF⟩
    · rw [if_neg e] at h ⊢
      exact ⟨fun _ => h μ1 hK.2.1 hF, fun z => absurd rfl z⟩
  · have w : ¬ (0 ≤ o ∧ o ≤ tE 1 A - 1) := w
    rw [if_neg (by omega)] at h
    exact h μ1 hK.2.1 hF
def T_X5_judgedNow : Tr := tO0 22 fun n μ Post => ∃ A, Ki A μ ∧ Lv A (A 2 2) μ ∧ Post (some (oI (jd (dnA A (A 2 2)) (tE 1 A).toNat 0))) μ
theorem ok_X5_judgedNow : oh_Ok pg_X5_judgedNow 2 T_X5_judgedNow := by
  refine tO0_ok fun n μ Post G hG hn hM h => ?_
  obtain rfl := n22 hn
  obtain ⟨A, hK, hL, h⟩ := h
  have hE := tE_rg (hK.1.1 1 (by omega)).1
  have c11 := (Rd_n hK.2.2).2
  have key : ∀ (k : Nat) (c : Int), 0 ≤ c → c + k = tE 1 A → Post (some (oI (jd (dnA A (A 2 2)) k c))) μ → G 2 [some (oR 22 0), some (oI c)] [] μ := by
    intro k
    induction k with
    | zero =>
      intro c h0 h1 hp
      refine oh_go hG [(2, 2)] 40 ?_
      exact ⟨fun _ => hp, fun q => absurd q (by omega)⟩
    | succ k ih =>
      intro c h0 h1 hp
      unfold jd at hp
      refine oh_go hG [(2, 2)] 40 ?_
      refine And.intro (fun q => absurd q (by omega)) (fun _ => ?_)
      refine And.intro (by omega) ?_
      rw [hL.1 c h0 (by omega)]
      by_cases e : dnA A (A 2 2) c = true
      · rw [if_pos e] at hp ⊢
        exact ⟨fun _ => ⟨by omega, ih _ (by omega) (by omega) hp⟩, fun z => absurd (by decide) z⟩
      · rw [if_neg e] at hp ⊢
        exact ⟨fun z => absurd rfl z, fun _ => hp⟩
  refine oh_go hG [(2, 2)] 10 ?_
  exact key (tE 1 A).toNat 0 (by omega) (by omega) h
def T_X5_judged : Tr := tO0 22 fun n μ Post => ∃ A, ValA A ∧ RepM A μ ∧ ∀ μ', Ki A μ' → Lv A (A 2 2) μ' → FrM μ μ' → Post (some (oI (s_judged A).1)) μ'
theorem ok_X5_judged : oh_Ok (pg_X5_judged T_X5_find T_X5_judgedNow) 1 T_X5_judged := by
  refine tO0_ok fun n μ Post G hG hn hM h => ?_
  obtain rfl := n22 hn
  obtain ⟨A, hV, hR, h⟩ := h
  unfold s_judged at h
  dsimp only at h
  refine oh_go hG [] 40 ?_
  refine And.intro ⟨A, hV, hR, fun μ1 hK hL hF => ?_⟩ trivial
  exact ⟨⟨A, hK, hL, h μ1 hK hL hF⟩, trivial⟩
def T_X5_bodyOf : Tr := tO3 22 fun n b x w μ Post => ∃ A, Lv A (A 2 2) μ ∧ (0 ≤ b ∧ b ≤ 5) ∧ (0 ≤ x ∧ x ≤ 23) ∧ (0 ≤ w ∧ w ≤ 2) ∧ Post (some (oI (bdy A (b * 24 + x) w))) μ
theorem ok_X5_bodyOf : oh_Ok pg_X5_bodyOf 5 T_X5_bodyOf := by
  refine tO3_ok fun n b x w μ Post G hG hn hb hx hw hM h => ?_
  obtain rfl := n22 hn
  obtain ⟨A, hL, hb2, hx2, hw2, h⟩ := h
  obtain ⟨e1, e2, e3⟩ := hL.2 (b * 24 + x) (by omega) (by omega)
  have ec : 24 * b + x = b * 24 + x := by omega
  unfold bdy at h
  refine oh_go hG [] 40 ?_
  refine And.intro (by omega) ?_
  refine And.intro (by omega) ?_
  rw [ec]
  refine And.intro (fun q => ?_) (fun q => ?_)
  · rw [if_neg q] at h
    refine And.intro (fun r => ?_) (fun r => ?_)
    · rw [if_neg r] at h
      refine And.intro (by omega) ?_
      rw [e3]
      exact h
    · rw [if_pos (Classical.not_not.mp r)] at h
      refine And.intro (by omega) ?_
      rw [e2]
      exact h
  · rw [if_pos (Classical.not_not.mp q)] at h
    refine And.intro (by omega) ?_
    rw [e1]
    exact h
def T_X5_body : Tr := tM3 s_body
theorem ok_X5_body : oh_Ok (pg_X5_body T_X5_find T_X5_isBody T_X5_isHour T_X5_in T_X5_bodyOf) 4 T_X5_body := by
  refine tO3_ok fun n b x w μ Post G hG hn hb hx hw hM h => ?_
  obtain rfl := n22 hn
  obtain ⟨A, hV, hR, h⟩ := h
  unfold s_body at h
  refine oh_go hG [] 40 ?_
  refine And.intro ⟨A, hV, hR, fun μ1 hK hL hF => ?_⟩ trivial
  have hbad : ¬ (((0 ≤ b ∧ b < 6) ∧ 0 ≤ x ∧ x < 24) ∧ 0 ≤ w ∧ w ≤ 2) → Post (some (oI (-2))) μ1 := fun z => by
    rw [if_neg z] at h
    exact h μ1 hK.2.1 hF
  refine And.intro ?_ trivial
  refine And.intro (fun q1 => ?_) (fun q1 => ⟨fun _ => hbad (by omega), fun y => absurd rfl y⟩)
  refine And.intro (fun y => absurd y (by decide)) (fun _ => ?_)
  refine And.intro ?_ trivial
  refine And.intro (fun q2 => ?_) (fun q2 => ⟨fun _ => hbad (by omega), fun y => absurd rfl y⟩)
  refine And.intro (fun y => absurd y (by decide)) (fun _ => ?_)
  refine And.intro ?_ trivial
  refine And.intro (fun q3 => ?_) (fun q3 => ⟨fun _ => hbad (fun z => q3 z.2), fun y => absurd rfl y⟩)
  have q3 : 0 ≤ w ∧ w ≤ 2 := q3
  refine And.intro (fun y => absurd y (by decide)) (fun _ => ?_)
  rw [if_pos (by omega)] at h
  exact ⟨⟨A, hL, q1, q2, q3, h μ1 hK.2.1 hF⟩, trivial⟩
def T_X5_metOf : Tr := tO2 22 fun n a b μ Post => ∃ A, Lv A (A 2 2) μ ∧ (0 ≤ a ∧ a ≤ 5) ∧ (0 ≤ b ∧ b ≤ 5) ∧ Post (some (oI ((mk (mtB A a b) 24 : Nat) : Int))) μ
theorem ok_X5_metOf : oh_Ok pg_X5_metOf 5 T_X5_metOf := by
  refine tO2_ok fun n a b μ Post G hG hn ha hb hM h => ?_
  obtain rfl := n22 hn
  obtain ⟨A, hL, ha2, hb2, h⟩ := h
  have key : ∀ c, 0 ≤ c → c ≤ 24 → G 5 [some (oR 22 0), some (oI a), some (oI b), some (oI ((mk (mtB A a b) c.toNat : Nat) : Int)), some (oI c)] [] μ := by
    refine oh_for (F := fun c => 0 ≤ c → c ≤ 24 → G 5 [some (oR 22 0), some (oI a), some (oI b), some (oI ((mk (mtB A a b) c.toNat : Nat) : Int)), some (oI c)] [] μ) 24 ?_ ?_
    · intro c hc h0 h1
      have e : c = 24 := by omega
      subst e
      refine oh_go hG [(5, 5)] 40 ?_
      exact ⟨fun _ => h, fun q => absurd hc q⟩
    · intro c hc ih h0 h1
      have ih := ih (by omega) (by omega)
      have e1 := (hL.2 (a * 24 + c) (by omega) (by omega)).2.1
      have e2 := (hL.2 (b * 24 + c) (by omega) (by omega)).2.1
      refine oh_go hG [(5, 5)] 40 ?_
      refine And.intro (fun q => absurd q (by omega)) (fun _ => ?_)
      refine And.intro (by omega) ?_
      refine And.intro (by omega) ?_
      refine And.intro (by omega) ?_
      refine And.intro (by omega) ?_
      refine And.intro (by omega) ?_
      refine And.intro (by omega) ?_
      rw [show 24 * a + c = a * 24 + c by omega, show 24 * b + c = b * 24 + c by omega, e1, e2]
      refine And.intro (fun q => ?_) (fun q => ?_)
      · rw [mk_skip h0 (by unfold mtB; rw [decide_eq_true_eq]; exact q)] at ih
        refine And.intro (by omega) ?_
        rw [oh_or_0 (mk_lt31 _ (by omega))]
        exact ih
      · refine And.intro (by omega) ?_
        rw [mk_put h0 (by omega) (by unfold mtB; rw [decide_eq_true_eq]; exact Classical.not_not.mp q)]
        exact ih
  refine oh_go hG [(5, 5)] 10 ?_
  exact key 0 (by omega) (by omega)
def T_X5_met : Tr := tM2 s_met
theorem ok_X5_met : oh_Ok (pg_X5_met T_X5_find T_X5_isBody T_X5_metOf) 3 T_X5_met := by
  refine tO2_ok fun n a b μ Post G hG hn ha hb hM h => ?_
  obtain rfl := n22 hn
  obtain ⟨A, hV, hR, h⟩ := h
  unfold s_met at h
  refine oh_go hG [] 40 ?_
  refine And.intro ⟨A, hV, hR, fun μ1 hK hL hF => ?_⟩ trivial
  have hbad : ¬ ((0 ≤ a ∧ a < 6) ∧ (0 ≤ b ∧ b < 6) ∧ a ≠ b) → Post (some (oI (-2))) μ1 := fun z => by
    rw [if_neg z] at h
    exact h μ1 hK.2.1 hF
  refine And.intro ?_ trivial
  refine And.intro (fun q1 => ?_) (fun q1 => ⟨fun _ => hbad (by omega), fun y => absurd rfl y⟩)
  refine And.intro (fun y => absurd y (by decide)) (fun _ => ?_)
  refine And.intro ?_ trivial
  refine And.intro (fun q2 => ?_) (fun q2 => ⟨fun _ => hbad (by omega), fun y => absurd rfl y⟩)
  refine And.intro (fun y => absurd y (by decide)) (fun _ => ?_)
  refine And.intro (fun q3 => hbad (fun z => z.2.2 q3)) (fun q3 => ?_)
  rw [if_pos ⟨by omega, by omega, q3⟩] at h
  exact ⟨⟨A, hL, q1, q2, h μ1 hK.2.1 hF⟩, trivial⟩
def T_X5_slipsOf : Tr := tO2 22 fun n a b μ Post => ∃ A, Ki A μ ∧ (0 ≤ a ∧ a ≤ 5) ∧ (0 ≤ b ∧ b ≤ 5) ∧ Post (some (oI ((mk (slB A a b) 24 : Nat) : Int))) μ
theorem ok_X5_slipsOf : oh_Ok (pg_X5_slipsOf T_X5_actsNow) 6 T_X5_slipsOf := by
  refine tO2_ok fun n a b μ Post G hG hn ha hb hM h => ?_
  obtain rfl := n22 hn
  obtain ⟨A, hK, ha2, hb2, h⟩ := h
  have key : ∀ c, 1 ≤ c → c ≤ 24 → G 5 [some (oR 22 0), some (oI a), some (oI b), some (oI ((mk (slB A a b) c.toNat : Nat) : Int)), some (oI c), none] [] μ := by
    refine oh_for (F := fun c => 1 ≤ c → c ≤ 24 → G 5 [some (oR 22 0), some (oI a), some (oI b), some (oI ((mk (slB A a b) c.toNat : Nat) : Int)), some (oI c), none] [] μ) 24 ?_ ?_
    · intro c hc h0 h1
      have e : c = 24 := by omega
      subst e
      refine oh_go hG [(5, 5)] 40 ?_
      exact ⟨fun _ => h, fun q => absurd hc q⟩
    · intro c hc ih h0 h1
      have ih := ih (by omega) (by omega)
      refine oh_go hG [(5, 5)] 40 ?_
      refine And.intro (fun q => absurd q (by omega)) (fun _ => ?_)
      refine And.intro (T_now hK hb2 (by omega) ?_) trivial
      have hskip : ¬ slB A a b c = true → oh_rgI (c + 1) ∧ G 5 [some (oR 22 0), some (oI a), some (oI b), some (oI (oh_or ((mk (slB A a b) c.toNat : Nat) : Int) 0)), some (oI (c + 1)), none] [] μ := fun z => by
        rw [mk_skip (by omega) z] at ih
        rw [oh_or_0 (mk_lt31 _ (by omega))]
        exact ⟨by unfold oh_rgI; omega, ih⟩
      refine And.intro (fun q => ?_) (fun q => ?_)
      · exact hskip (by unfold slB; rw [decide_eq_true_eq]; exact fun z => z.2.1 q)
      · refine And.intro (by omega) ?_
        refine And.intro (T_now hK ha2 (by omega) ?_) trivial
        refine And.intro (fun r => ?_) (fun r => ?_)
        · exact hskip (by unfold slB; rw [decide_eq_true_eq]; exact fun z => r z.2.2.symm)
        · refine And.intro (by omega) ?_
          rw [mk_put (by omega) (by omega) (by unfold slB; rw [decide_eq_true_eq]; exact ⟨h0, q, (Classical.not_not.mp r).symm⟩)]
          exact ih
  refine oh_go hG [(5, 5)] 10 ?_
  have w := key 1 (by omega) (by omega)
  rw [slB_1] at w
  exact w
def T_X5_slips : Tr := tM2 s_slips
theorem ok_X5_slips : oh_Ok (pg_X5_slips T_X5_reads T_X5_isBody T_X5_slipsOf) 3 T_X5_slips := by
  refine tO2_ok fun n a b μ Post G hG hn ha hb hM h => ?_
  obtain rfl := n22 hn
  obtain ⟨A, hV, hR, h⟩ := h
  unfold s_slips at h
  refine oh_go hG [] 40 ?_
  refine And.intro ⟨A, hV, hR, fun μ1 k1 k2 => ?_⟩ trivial
  obtain ⟨hK, hF⟩ := ki_rd hV hR k1 k2
  have hbad : ¬ ((0 ≤ a ∧ a < 6) ∧ (0 ≤ b ∧ b < 6) ∧ a ≠ b) → Post (some (oI (-2))) μ1 := fun z => by
    rw [if_neg z] at h
    exact h μ1 hK.2.1 hF
  refine And.intro ?_ trivial
  refine And.intro (fun q1 => ?_) (fun q1 => ⟨fun _ => hbad (by omega), fun y => absurd rfl y⟩)
  refine And.intro (fun y => absurd y (by decide)) (fun _ => ?_)
  refine And.intro ?_ trivial
  refine And.intro (fun q2 => ?_) (fun q2 => ⟨fun _ => hbad (by omega), fun y => absurd rfl y⟩)
  refine And.intro (fun y => absurd y (by decide)) (fun _ => ?_)
  refine And.intro (fun q3 => hbad (fun z => z.2.2 q3)) (fun q3 => ?_)
  rw [if_pos ⟨by omega, by omega, q3⟩] at h
  exact ⟨⟨A, hK, q1, q2, h μ1 hK.2.1 hF⟩, trivial⟩
