/-! THE MODEL: trade, suspects, likely, write -/
def T_X5_wants : Tr := tO3 22 fun n p h o μ Post => ((0 ≤ p ∧ p ≤ 5) ∧ (0 ≤ h ∧ h ≤ 23) ∧ 0 ≤ o ∧ o ≤ 23) ∧ (μ 33 0 (p * 24 + h) < μ 33 0 (p * 24 + o) → Post (some (oI 1)) μ) ∧ (¬ μ 33 0 (p * 24 + h) < μ 33 0 (p * 24 + o) → Post (some (oI 0)) μ)
theorem ok_X5_wants : oh_Ok pg_X5_wants 4 T_X5_wants := by
  refine tO3_ok fun n p x y μ Post G hG hn hp hx hy hM h => ?_
  obtain rfl := n22 hn
  obtain ⟨⟨h1, h2, h3⟩, ht, hf⟩ := h
  rw [show p * 24 + x = 24 * p + x by omega, show p * 24 + y = 24 * p + y by omega] at ht hf
  refine oh_go hG [] 40 ?_
  refine And.intro (by omega) ?_
  refine And.intro (by omega) ?_
  refine And.intro (by omega) ?_
  refine And.intro (by omega) ?_
  refine And.intro (by omega) ?_
  refine And.intro (by omega) ?_
  exact And.intro (fun q => ⟨by omega, hf (by omega)⟩) (fun q => ⟨by omega, ht (by omega)⟩)
def T_X5_wouldTrade : Tr := tO4 22 fun n a h b o μ Post => ∃ A, Ki A μ ∧ ((0 ≤ a ∧ a ≤ 5) ∧ (0 ≤ h ∧ h ≤ 23) ∧ (0 ≤ b ∧ b ≤ 5) ∧ 0 ≤ o ∧ o ≤ 23) ∧ (bg (A 4) (aw A (a * 24 + h)) h (aw A (b * 24 + o)) o = true → Post (some (oI 1)) μ) ∧ (¬ bg (A 4) (aw A (a * 24 + h)) h (aw A (b * 24 + o)) o = true → Post (some (oI 0)) μ)
theorem ok_X5_wouldTrade : oh_Ok (pg_X5_wouldTrade T_X5_wants) 7 T_X5_wouldTrade := by
  refine tO4_ok fun n a x b y μ Post G hG hn ha hx hb hy hM h => ?_
  obtain rfl := n22 hn
  obtain ⟨A, hK, ⟨r1, r2, r3, r4⟩, ht, hf⟩ := h
  have w1 := ki_w hK (a * 24 + x) (by omega) (by omega)
  have w2 := ki_w hK (b * 24 + y) (by omega) (by omega)
  have t1 := (ki_tok hK).1 (a * 24 + x) (by omega) (by omega)
  have t2 := (ki_tok hK).1 (b * 24 + y) (by omega) (by omega)
  have hW := hK.2.1.2.2.2.1
  refine oh_go hG [] 60 ?_
  refine And.intro (by omega) ?_
  refine And.intro (by omega) ?_
  refine And.intro (by omega) ?_
  refine And.intro (by omega) ?_
  refine And.intro (by omega) ?_
  refine And.intro (by omega) ?_
  rw [show 24 * a + x = a * 24 + x by omega, show 24 * b + y = b * 24 + y by omega, w1, w2]
  generalize aw A (a * 24 + x) = one at *
  generalize aw A (b * 24 + y) = two at *
  unfold bg at ht hf
  rw [decide_eq_true_eq] at ht hf
  refine And.intro (fun q => ⟨by omega, hf (fun z => ?_)⟩) (fun q => ?_)
  · rw [q] at z
    omega
  · refine And.intro ⟨by omega, fun v => ?_, fun v => ?_⟩ trivial
    · rw [hW _ (by omega) (by omega), hW _ (by omega) (by omega)] at v
      refine And.intro (fun z => absurd z (by decide)) (fun _ => ?_)
      refine And.intro ⟨by omega, fun u => ?_, fun u => ?_⟩ trivial
      · rw [hW _ (by omega) (by omega), hW _ (by omega) (by omega)] at u
        exact ⟨fun z => absurd z (by decide), fun _ => ⟨by omega, ht ⟨v, u⟩⟩⟩
      · rw [hW _ (by omega) (by omega), hW _ (by omega) (by omega)] at u
        exact ⟨fun _ => ⟨by omega, hf (fun z => u z.2)⟩, fun z => absurd rfl z⟩
    · rw [hW _ (by omega) (by omega), hW _ (by omega) (by omega)] at v
      exact ⟨fun _ => ⟨by omega, hf (fun z => v z.1)⟩, fun z => absurd rfl z⟩
def T_X5_tradeOf : Tr := tO4 22 fun n a h b o μ Post => ∃ A, Ki A μ ∧ ((0 ≤ a ∧ a ≤ 5) ∧ (0 ≤ h ∧ h ≤ 23) ∧ (0 ≤ b ∧ b ≤ 5) ∧ 0 ≤ o ∧ o ≤ 23) ∧ Post (some (oI (if aw A (a * 24 + h) = aw A (b * 24 + o) then -3 else if bg (A 4) (aw A (a * 24 + h)) h (aw A (b * 24 + o)) o = true then 1 else 0))) μ
theorem ok_X5_tradeOf : oh_Ok (pg_X5_tradeOf T_X5_wouldTrade) 6 T_X5_tradeOf := by
  refine tO4_ok fun n a x b y μ Post G hG hn ha hx hb hy hM h => ?_
  obtain rfl := n22 hn
  obtain ⟨A, hK, ⟨r1, r2, r3, r4⟩, h⟩ := h
  have w1 := ki_w hK (a * 24 + x) (by omega) (by omega)
  have w2 := ki_w hK (b * 24 + y) (by omega) (by omega)
  refine oh_go hG [] 60 ?_
  refine And.intro (by omega) ?_
  refine And.intro (by omega) ?_
  refine And.intro (by omega) ?_
  refine And.intro (by omega) ?_
  refine And.intro (by omega) ?_
  refine And.intro (by omega) ?_
  rw [show 24 * a + x = a * 24 + x by omega, show 24 * b + y = b * 24 + y by omega, w1, w2]
  refine And.intro (fun q => ?_) (fun q => ?_)
  · rw [if_neg q] at h
    refine And.intro (fun _ => ?_) (fun z => absurd rfl z)
    refine And.intro ⟨A, hK, ⟨r1, r2, r3, r4⟩, fun v => ?_, fun v => ?_⟩ trivial
    · rw [if_pos v] at h
      exact ⟨fun z => absurd z (by decide), fun _ => h⟩
    · rw [if_neg v] at h
      exact ⟨fun _ => h, fun z => absurd rfl z⟩
  · rw [if_pos (Classical.not_not.mp q)] at h
    exact ⟨fun z => absurd z (by decide), fun _ => h⟩
def T_X5_trade : Tr := tM4 s_trade
theorem ok_X5_trade : oh_Ok (pg_X5_trade T_X5_reads T_X5_isBody T_X5_isHour T_X5_tradeOf) 5 T_X5_trade := by
  refine tO4_ok fun n a x b y μ Post G hG hn ha hx hb hy hM h => ?_
  obtain rfl := n22 hn
  obtain ⟨A, hV, hR, h⟩ := h
  refine oh_go hG [] 40 ?_
  refine And.intro ⟨A, hV, hR, fun μ1 k1 k2 => ?_⟩ trivial
  obtain ⟨hK, hF⟩ := ki_rd hV hR k1 k2
  have hbad : ¬ ((0 ≤ a ∧ a < 6) ∧ 0 ≤ x ∧ x < 24) ∨ ¬ ((0 ≤ b ∧ b < 6) ∧ 0 ≤ y ∧ y < 24) → Post (some (oI (-2))) μ1 := fun z => by
    have e : s_trade A a x b y = (-2, A) := if_pos z
    rw [e] at h
    exact h μ1 hK.2.1 hF
  refine And.intro ?_ trivial
  refine And.intro (fun q1 => ?_) (fun q1 => ⟨fun _ => hbad (by omega), fun y => absurd rfl y⟩)
  refine And.intro (fun y => absurd y (by decide)) (fun _ => ?_)
  refine And.intro ?_ trivial
  refine And.intro (fun q2 => ?_) (fun q2 => ⟨fun _ => hbad (by omega), fun y => absurd rfl y⟩)
  refine And.intro (fun y => absurd y (by decide)) (fun _ => ?_)
  refine And.intro ?_ trivial
  refine And.intro (fun q3 => ?_) (fun q3 => ⟨fun _ => hbad (by omega), fun y => absurd rfl y⟩)
  refine And.intro (fun y => absurd y (by decide)) (fun _ => ?_)
  refine And.intro ?_ trivial
  refine And.intro (fun q4 => ?_) (fun q4 => ⟨fun _ => hbad (by omega), fun y => absurd rfl y⟩)
  refine And.intro (fun y => absurd y (by decide)) (fun _ => ?_)
  have e : s_trade A a x b y = (if aw A (a * 24 + x) = aw A (b * 24 + y) then (-3, A) else (if bg (A 4) (aw A (a * 24 + x)) x (aw A (b * 24 + y)) y then 1 else 0, A)) := if_neg (by omega)
  rw [e] at h
  refine And.intro ⟨A, hK, ⟨q1, q2, q3, q4⟩, ?_⟩ trivial
  by_cases c : aw A (a * 24 + x) = aw A (b * 24 + y)
  · rw [if_pos c] at h ⊢
    exact h μ1 hK.2.1 hF
  · rw [if_neg c] at h ⊢
    exact h μ1 hK.2.1 hF
theorem ki_seen {A : Ab} {μ : Mem} (h : Ki A μ) : μ 22 0 23 = A 2 3 ∧ (0 ≤ A 2 3 ∧ A 2 3 ≤ 8) ∧ ∀ j, 0 ≤ j → j < A 2 3 → ((0 ≤ A 5 j ∧ A 5 j < 144) ∧ 0 ≤ A 6 j ∧ A 6 j ≤ 4) ∧ μ 41 0 (3 * j) = A 5 j / 24 ∧ μ 41 0 (3 * j + 1) = A 5 j % 24 ∧ μ 41 0 (3 * j + 2) = A 6 j := ⟨h.2.1.1.2.2, h.1.2.2.2.2.1.1, fun j a b => ⟨h.1.2.2.2.2.1.2 j a b, h.2.1.2.2.2.2.1 j a b⟩⟩
def T_X5_suspectsNow : Tr := tO0 22 fun n μ Post => ∃ A, Ki A μ ∧ Post (some (oI (su A (A 2 3).toNat))) μ
theorem ok_X5_suspectsNow : oh_Ok (pg_X5_suspectsNow T_X5_actsNow) 4 T_X5_suspectsNow := by
  refine tO0_ok fun n μ Post G hG hn hM h => ?_
  obtain rfl := n22 hn
  obtain ⟨A, hK, h⟩ := h
  obtain ⟨v1, v2, v3⟩ := ki_seen hK
  have key : ∀ (k : Nat) (c : Int) (r : Option AV), 0 ≤ c → c + k = A 2 3 → G 5 [some (oR 22 0), some (oI (su A c.toNat)), some (oI c), r] [] μ := by
    intro k
    induction k with
    | zero =>
      intro c r h0 h1
      refine oh_go hG [(5, 4)] 40 ?_
      refine And.intro (fun _ => ?_) (fun q => absurd q (by omega))
      have e : c = A 2 3 := by omega
      rw [e]
      exact h
    | succ k ih =>
      intro c r h0 h1
      obtain ⟨s1, s2, s3, s4⟩ := v3 c h0 (by omega)
      have ih := fun r => ih (c + 1) r (by omega) (by omega)
      have e1 : (c + 1).toNat = c.toNat + 1 := by omega
      have e2 : ((c.toNat : Nat) : Int) = c := by omega
      have e3 : su A (c + 1).toNat = oh_and (su A c.toNat) (suB A (A 5 c)) := by
        rw [e1]
        show oh_and (su A c.toNat) (suB A (A 5 (c.toNat : Int))) = _
        rw [e2]
      rw [e3] at ih
      unfold suB at ih
      refine oh_go hG [(5, 4)] 40 ?_
      refine And.intro (fun q => absurd q (by omega)) (fun _ => ?_)
      refine And.intro (by omega) ?_
      refine And.intro (by omega) ?_
      refine And.intro (by omega) ?_
      refine And.intro (by omega) ?_
      refine And.intro (by omega) ?_
      rw [s2, s3]
      refine And.intro (T_now hK (by omega) (by omega) ?_) trivial
      refine And.intro (fun q => ?_) (fun q => ?_)
      · rw [if_neg q] at ih
        exact ⟨by omega, ih _⟩
      · rw [if_pos (Classical.not_not.mp q)] at ih
        exact ⟨by omega, ih _⟩
  refine oh_go hG [(5, 4)] 10 ?_
  exact key (A 2 3).toNat 0 none (by omega) (by omega)
def T_X5_suspects : Tr := tM0 s_suspects
theorem ok_X5_suspects : oh_Ok (pg_X5_suspects T_X5_reads T_X5_suspectsNow) 1 T_X5_suspects := by
  refine tO0_ok fun n μ Post G hG hn hM h => ?_
  obtain rfl := n22 hn
  obtain ⟨A, hV, hR, h⟩ := h
  unfold s_suspects at h
  dsimp only at h
  refine oh_go hG [] 40 ?_
  refine And.intro ⟨A, hV, hR, fun μ1 k1 k2 => ?_⟩ trivial
  obtain ⟨hK, hF⟩ := ki_rd hV hR k1 k2
  exact ⟨⟨A, hK, h μ1 hK.2.1 hF⟩, trivial⟩
def T_X5_likelyNow : Tr := tO0 22 fun n μ Post => ∃ A, Ki A μ ∧ ∀ μ', kL μ μ' → Post (some (oI ((mk (lkB A) 3 : Nat) : Int))) μ'
theorem ok_X5_likelyNow : oh_Ok (pg_X5_likelyNow T_X5_lives) 5 T_X5_likelyNow := by
  refine tO0_ok fun n μ Post G hG hn hM h => ?_
  obtain rfl := n22 hn
  obtain ⟨A, hK, h⟩ := h
  have k4 : ∀ c, 0 ≤ c → c ≤ 3 → ∀ μ1, kL μ μ1 → G 4 [some (oR 22 0), some (oI ((mk (lkB A) c.toNat : Nat) : Int)), some (oI c), none, none] [] μ1 := by
    refine oh_for (F := fun c => 0 ≤ c → c ≤ 3 → ∀ μ1, kL μ μ1 → G 4 [some (oR 22 0), some (oI ((mk (lkB A) c.toNat : Nat) : Int)), some (oI c), none, none] [] μ1) 3 ?_ ?_
    · intro c hc h0 h1 μ1 g1
      have e : c = 3 := by omega
      subst e
      refine oh_go hG [(4, 3), (19, 5)] 40 ?_
      exact ⟨fun _ => h μ1 g1, fun q => absurd hc q⟩
    · intro c hc ih h0 h1 μ1 g1
      have ih := ih (by omega) (by omega)
      refine oh_go hG [(4, 3), (19, 5)] 40 ?_
      refine And.intro (fun q => absurd q (by omega)) (fun _ => ?_)
      refine And.intro ⟨A, Ki_L hK g1, by omega, fun μ2 j1 j2 => ?_⟩ trivial
      have g2 := kL_tr g1 j1
      obtain ⟨v1, v2, v3⟩ := ki_seen (Ki_L hK g2)
      have k19 : ∀ (k : Nat) (j : Int) (r : Int), 0 ≤ j → j + k = A 2 3 → (r = 1 ∧ (∀ i, 0 ≤ i → i < j → cD A c (A 5 i) = A 6 i) ∨ r = 0 ∧ ¬ (∀ i, 0 ≤ i → i < j → cD A c (A 5 i) = A 6 i)) → G 19 [some (oR 22 0), some (oI ((mk (lkB A) c.toNat : Nat) : Int)), some (oI c), some (oI r), some (oI j)] [] μ2 := by
        intro k
        induction k with
        | zero =>
          intro j r h0 h1 hr
          have e : j = A 2 3 := by omega
          subst e
          refine oh_go hG [(4, 3), (19, 5)] 40 ?_
          refine And.intro (fun _ => ?_) (fun q => absurd q (by omega))
          rcases hr with ⟨rfl, hr⟩ | ⟨rfl, hr⟩
          · refine And.intro (fun y => absurd y (by decide)) (fun _ => ?_)
            refine And.intro (by omega) ?_
            rw [mk_put (by omega) (by omega) (lkB_t.mpr hr)]
            exact ih μ2 g2
          · refine And.intro (fun _ => ?_) (fun y => absurd rfl y)
            refine And.intro (by omega) ?_
            rw [oh_or_0 (mk_lt31 _ (by omega))]
            rw [mk_skip (by omega) (fun z => hr (lkB_t.mp z))] at ih
            exact ih μ2 g2
        | succ k ih2 =>
          intro j r h0 h1 hr
          obtain ⟨s1, s2, s3, s4⟩ := v3 j h0 (by omega)
          have e1 := (j2.2 (A 5 j) s1.1.1 s1.1.2).1
          refine oh_go hG [(4, 3), (19, 5)] 60 ?_
          refine And.intro (fun q => absurd q (by omega)) (fun _ => ?_)
          rcases hr with ⟨rfl, hr⟩ | ⟨rfl, hr⟩
          · refine And.intro (fun y => absurd y (by decide)) (fun _ => ?_)
            refine And.intro (by omega) ?_
            refine And.intro (by omega) ?_
            rw [s2]
            refine And.intro (by omega) ?_
            refine And.intro (by omega) ?_
            refine And.intro (by omega) ?_
            refine And.intro (by omega) ?_
            rw [s3]
            refine And.intro (by omega) ?_
            rw [show 24 * (A 5 j / 24) + A 5 j % 24 = A 5 j by omega]
            refine And.intro (by omega) ?_
            refine And.intro (by omega) ?_
            refine And.intro (by omega) ?_
            refine And.intro (by omega) ?_
            rw [s4, e1]
            refine And.intro (fun q => ?_) (fun q => ?_)
            · exact ⟨by omega, ih2 (j + 1) 0 (by omega) (by omega) (Or.inr ⟨rfl, fun z => q (z j h0 (by omega))⟩)⟩
            · refine And.intro (by omega) (ih2 (j + 1) 1 (by omega) (by omega) (Or.inl ⟨rfl, fun i a b => ?_⟩))
              by_cases e : i = j
              · rw [e]
                exact Classical.not_not.mp q
              · exact hr i a (by omega)
          · refine And.intro (fun _ => ?_) (fun y => absurd rfl y)
            exact ⟨by omega, ih2 (j + 1) 0 (by omega) (by omega) (Or.inr ⟨rfl, fun z => hr (fun i a b => z i a (by omega))⟩)⟩
      exact k19 (A 2 3).toNat 0 1 (by omega) (by omega) (Or.inl ⟨rfl, fun i a b => absurd b (by omega)⟩)
  refine oh_go hG [(4, 3)] 10 ?_
  exact k4 0 (by omega) (by omega) μ kL_rf
def T_X5_likely : Tr := tM0 s_likely
theorem ok_X5_likely : oh_Ok (pg_X5_likely T_X5_reads T_X5_likelyNow) 1 T_X5_likely := by
  refine tO0_ok fun n μ Post G hG hn hM h => ?_
  obtain rfl := n22 hn
  obtain ⟨A, hV, hR, h⟩ := h
  unfold s_likely at h
  dsimp only at h
  refine oh_go hG [] 40 ?_
  refine And.intro ⟨A, hV, hR, fun μ1 k1 k2 => ?_⟩ trivial
  obtain ⟨hK, hF⟩ := ki_rd hV hR k1 k2
  exact ⟨⟨A, hK, fun μ2 j1 => h μ2 (Ki_L hK j1).2.1 (FrM_tr hF (kM_Fr (kL_k j1)))⟩, trivial⟩
