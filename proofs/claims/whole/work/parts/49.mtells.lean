/-! THE MODEL: what an hour of a person tells -/
theorem tel_v {A : Ab} {p t : Int} (hp : 0 ≤ p ∧ p ≤ 5) (ht : 0 ≤ t ∧ t ≤ 23) : (s_owns A p t).1 = aw A (p * 24 + t) ∧ (s_acts A p t).1 = an A p t ∧ (s_deep A p t).1 = sts (aw A) p t ∧ ∀ c, 0 ≤ c → c ≤ 2 → (s_body A p t c).1 = bdy A (p * 24 + t) c := by
  refine ⟨?_, ?_, ?_, fun c a b => ?_⟩
  · unfold s_owns
    rw [if_pos (by omega)]
  · unfold s_acts
    rw [if_pos (by omega)]
  · unfold s_deep
    rw [if_pos (by omega)]
  · unfold s_body
    rw [if_pos (by omega)]
def T_X5_tellsHour : Tr := tOJ2 22 fun n x p t μ Post => ∃ A, Ki A μ ∧ Lv A (A 2 2) μ ∧ (0 ≤ p ∧ p ≤ 5) ∧ (0 ≤ t ∧ t ≤ 23) ∧ Post (some (oL (tel A p t x))) μ
theorem ok_X5_tellsHour : oh_Ok (pg_X5_tellsHour T_X5_actsNow T_X5_deepOf T_X5_bodyOf) 8 T_X5_tellsHour := by
  refine tOJ2_ok fun n x p t μ Post G hG hn hx hp ht hM h => ?_
  obtain rfl := n22 hn
  obtain ⟨A, hK, hL, hp2, ht2, h⟩ := h
  obtain ⟨v1, v2, v3, v4⟩ := tel_v (A := A) hp2 ht2
  unfold tel at h
  rw [v1, v2, v3] at h
  have key : ∀ (k : Nat) (c y : Int), 0 ≤ c → c + k = 3 → Post (some (oL (foP (fun c x => oh_mix x (s_body A p t c).1) k c y))) μ → G 58 [some (oR 22 0), some (oL x), none, some (oI p), some (oI t), some (oL y), none, some (oI c)] [] μ := by
    intro k
    induction k with
    | zero =>
      intro c y c0 c1 hp
      refine oh_go hG [(58, 8)] 40 ?_
      exact And.intro (fun _ => hp) (fun q => absurd q (by omega))
    | succ k ih =>
      intro c y c0 c1 hp
      have hp : Post (some (oL (foP (fun c x => oh_mix x (s_body A p t c).1) k (c + 1) (oh_mix y (s_body A p t c).1)))) μ := hp
      rw [v4 c c0 (by omega)] at hp
      refine oh_go hG [(58, 8)] 40 ?_
      refine And.intro (fun q => absurd q (by omega)) (fun _ => ?_)
      refine And.intro ⟨A, hL, hp2, ht2, by omega, ?_⟩ trivial
      exact ⟨by omega, ih (c + 1) _ (by omega) (by omega) hp⟩
  refine oh_go hG [(58, 8)] 60 ?_
  refine And.intro (by omega) ?_
  refine And.intro (by omega) ?_
  refine And.intro (by omega) ?_
  rw [show 24 * p + t = p * 24 + t by omega, ki_w hK _ (by omega) (by omega)]
  refine And.intro (T_now hK hp2 ht2 ?_) trivial
  refine And.intro ⟨⟨(ki_tok hK).2, hp2, ht2⟩, ?_⟩ trivial
  rw [ki_sts hK hp2 ht2]
  exact key 3 0 _ (by omega) (by omega) h
