/-! THE MODEL: who acts -/
theorem php : ∀ (n : Nat) (f : Nat → Int), (∀ i, i ≤ n → 0 ≤ f i ∧ f i < n) → ∃ i j, i < j ∧ j ≤ n ∧ f i = f j
  | 0, f, h => by
    have := h 0 (by omega)
    omega
  | n + 1, f, h => by
    by_cases hv : ∃ i, i ≤ n ∧ f i = f (n + 1)
    · obtain ⟨i, h1, h2⟩ := hv
      exact ⟨i, n + 1, by omega, by omega, h2⟩
    · have hv2 : ∀ i, i ≤ n → ¬ f i = f (n + 1) := fun i a b => hv ⟨i, a, b⟩
      have hl := h (n + 1) (by omega)
      obtain ⟨i, j, h1, h2, h3⟩ := php n (fun i => if f i = n then f (n + 1) else f i) (fun i hi => by
        have h4 := h i (by omega)
        have h5 := hv2 i hi
        split <;> omega)
      refine ⟨i, j, h1, by omega, ?_⟩
      have h5 := hv2 i (by omega)
      have h6 := hv2 j (by omega)
      split at h3 <;> split at h3 <;> omega
theorem itr_in (w : Int → Int) (h : Int) : ∀ (k : Nat) (b : Int), itr w h (k + 1) b = itr w h k (w (b * 24 + h))
  | 0, b => rfl
  | k + 1, b => by
    show w (itr w h (k + 1) b * 24 + h) = w (itr w h k (w (b * 24 + h)) * 24 + h)
    rw [itr_in w h k b]
def fx (w : Int → Int) (h b : Int) : Prop := w (b * 24 + h) = b
theorem itr_fx {w : Int → Int} {h b : Int} {k : Nat} (hf : fx w h (itr w h k b)) : ∀ m : Nat, itr w h (k + m) b = itr w h k b
  | 0 => rfl
  | m + 1 => by
    show w (itr w h (k + m) b * 24 + h) = _
    rw [itr_fx hf m]
    exact hf
theorem itr_pe {w : Int → Int} {h b : Int} {i j : Nat} (e : itr w h i b = itr w h j b) : ∀ m : Nat, itr w h (i + m) b = itr w h (j + m) b
  | 0 => e
  | m + 1 => by
    show w (itr w h (i + m) b * 24 + h) = w (itr w h (j + m) b * 24 + h)
    rw [itr_pe e m]
theorem itr_pq {w : Int → Int} {h b : Int} {i d : Nat} (e : itr w h i b = itr w h (i + d) b) : ∀ q : Nat, itr w h (i + q * d) b = itr w h i b
  | 0 => by rw [Nat.zero_mul, Nat.add_zero]
  | q + 1 => by
    have := itr_pe e (q * d)
    rw [itr_pq e q] at this
    rw [this, Nat.succ_mul]
    congr 1
    omega
/-- who ever comes to one that is its own owner comes there within five steps -/
theorem fx_six {w : Int → Int} {h b : Int} (ht : tok w) (hh : 0 ≤ h ∧ h ≤ 23) (hb : 0 ≤ b ∧ b ≤ 5) (hf : fx w h (itr w h 6 b)) : ∃ j, j < 6 ∧ fx w h (itr w h j b) := by
  obtain ⟨i, j, h1, h2, h3⟩ := php 6 (fun i => itr w h i b) (fun i _ => by have := itr_rg ht hb hh i; omega)
  obtain ⟨d, rfl⟩ : ∃ d, j = i + d := ⟨j - i, by omega⟩
  have h4 := itr_pq h3 6
  have h5 := itr_fx hf (i + 6 * d - 6)
  rw [show 6 + (i + 6 * d - 6) = i + 6 * d by omega, h4] at h5
  exact ⟨i, by omega, by rw [h5]; exact hf⟩
theorem stq_sp (w : Int → Int) (h : Int) : ∀ (k : Nat) (n b : Int), 0 ≤ n → (stq w h k n b = -1 ∧ ∀ j, j < k → ¬ fx w h (itr w h j b)) ∨ ∃ j : Nat, j < k ∧ stq w h k n b = n + j ∧ fx w h (itr w h j b)
  | 0, n, b, hn => Or.inl ⟨rfl, fun j hj => absurd hj (by omega)⟩
  | k + 1, n, b, hn => by
    have e : stq w h (k + 1) n b = if w (b * 24 + h) = b then n else stq w h k (n + 1) (w (b * 24 + h)) := rfl
    by_cases hf : w (b * 24 + h) = b
    · right
      refine ⟨0, by omega, ?_, hf⟩
      rw [e, if_pos hf]
      omega
    · rw [e, if_neg hf]
      rcases stq_sp w h k (n + 1) (w (b * 24 + h)) (by omega) with ⟨h1, h2⟩ | ⟨j, h1, h2, h3⟩
      · left
        refine ⟨h1, fun j hj => ?_⟩
        cases j with
        | zero => exact hf
        | succ j =>
          rw [itr_in]
          exact h2 j (by omega)
      · right
        refine ⟨j + 1, by omega, by rw [h2]; omega, ?_⟩
        rw [itr_in]
        exact h3
/-- the Model's way to who acts -/
theorem act_d {w : Int → Int} {law b h : Int} (ht : tok w) (hh : 0 ≤ h ∧ h ≤ 23) (hb : 0 ≤ b ∧ b ≤ 5) (hl : 0 ≤ law ∧ law ≤ 2) (h1 : ¬ law = 1) : (sts w b h = -1 ∧ act w law b h = (if law = 0 then -1 else b)) ∨ ∃ j : Nat, j < 6 ∧ sts w b h = j ∧ act w law b h = itr w h j b := by
  rcases stq_sp w h 6 0 b (by omega) with ⟨h2, h3⟩ | ⟨j, h2, h3, h4⟩
  · left
    refine ⟨h2, ?_⟩
    have hn : ¬ w (itr w h 6 b * 24 + h) = itr w h 6 b := fun z => by
      obtain ⟨j, j1, j2⟩ := fx_six ht hh hb z
      exact h3 j j1 j2
    unfold act
    rw [if_neg h1, if_neg hn]
    by_cases e : law = 0
    · rw [if_neg (by omega), if_pos e]
    · rw [if_pos (by omega), if_neg e]
  · right
    refine ⟨j, h2, by unfold sts; rw [h3]; omega, ?_⟩
    have e6 := itr_fx h4 (6 - j)
    rw [show j + (6 - j) = 6 by omega] at e6
    unfold act
    rw [if_neg h1, e6]
    exact if_pos h4
def T_X5_deepOf : Tr := tO2 22 fun n b h μ Post => (tok (μ 30 0) ∧ (0 ≤ b ∧ b ≤ 5) ∧ 0 ≤ h ∧ h ≤ 23) ∧ Post (some (oI (sts (μ 30 0) b h))) μ
theorem ok_X5_deepOf : oh_Ok pg_X5_deepOf 5 T_X5_deepOf := by
  refine tO2_ok fun n b hh μ Post G hG hn hb hh0 hM h => ?_
  obtain rfl := n22 hn
  obtain ⟨⟨ht, hb2, hh2⟩, h⟩ := h
  have key : ∀ (k : Nat) (c p : Int), 0 ≤ c → c + k = 6 → (0 ≤ p ∧ p ≤ 5) → stq (μ 30 0) hh k c p = sts (μ 30 0) b hh → G 5 [some (oR 22 0), some (oI b), some (oI hh), some (oI p), some (oI c)] [] μ := by
    intro k
    induction k with
    | zero =>
      intro c p h0 h1 hp he
      have he : -1 = sts (μ 30 0) b hh := he
      rw [← he] at h
      refine oh_go hG [(5, 5)] 40 ?_
      refine And.intro (fun _ => ?_) (fun q => absurd q (by omega))
      exact And.intro (fun q => absurd (show c = 6 by omega) q) (fun _ => h)
    | succ k ih =>
      intro c p h0 h1 hp he
      have he : (if μ 30 0 (p * 24 + hh) = p then c else stq (μ 30 0) hh k (c + 1) (μ 30 0 (p * 24 + hh))) = sts (μ 30 0) b hh := he
      have ec : 24 * p + hh = p * 24 + hh := by omega
      have hr := ht (p * 24 + hh) (by omega) (by omega)
      refine oh_go hG [(5, 5)] 40 ?_
      refine And.intro (fun q => absurd q (by omega)) (fun _ => ?_)
      refine And.intro (by omega) ?_
      refine And.intro (by omega) ?_
      refine And.intro (by omega) ?_
      rw [ec]
      refine And.intro (fun q => ?_) (fun q => ?_)
      · rw [if_pos q] at he
        rw [← he] at h
        exact And.intro (fun _ => h) (fun y => absurd (Classical.not_not.mp y) (by omega))
      · rw [if_neg q] at he
        refine And.intro (by omega) ?_
        refine And.intro (by omega) ?_
        refine And.intro (by omega) ?_
        refine And.intro (by omega) ?_
        rw [ec]
        exact ih (c + 1) _ (by omega) (by omega) hr he
  refine oh_go hG [(5, 5)] 10 ?_
  exact key 6 0 b (by omega) (by omega) hb2 rfl
def T_X5_actsBy : Tr := tO3 22 fun n l b h μ Post => (tok (μ 30 0) ∧ (0 ≤ l ∧ l ≤ 2) ∧ (0 ≤ b ∧ b ≤ 5) ∧ 0 ≤ h ∧ h ≤ 23) ∧ Post (some (oI (act (μ 30 0) l b h))) μ
theorem ok_X5_actsBy : oh_Ok (pg_X5_actsBy T_X5_deepOf) 7 T_X5_actsBy := by
  refine tO3_ok fun n l b hh μ Post G hG hn hl hb hh0 hM h => ?_
  obtain rfl := n22 hn
  obtain ⟨⟨ht, hl2, hb2, hh2⟩, h⟩ := h
  refine oh_go hG [(31, 7)] 40 ?_
  refine And.intro (fun x => ?_) (fun x => ?_)
  · refine And.intro ⟨⟨ht, hb2, hh2⟩, ?_⟩ trivial
    have key : ∀ (d : Int) (j : Nat), (d = -1 ∧ j = 0 ∨ d = j ∧ j < 6) → (d = -1 → (if l = 0 then -1 else b) = act (μ 30 0) l b hh) → (¬ d = -1 → itr (μ 30 0) hh j b = act (μ 30 0) l b hh) → ∀ (k c : Nat), c + k = j → G 31 [some (oR 22 0), some (oI l), some (oI b), some (oI hh), some (oI d), some (oI (itr (μ 30 0) hh c b)), some (oI (c : Int))] [] μ := by
      intro d j hd h1 h2 k
      induction k with
      | zero =>
        intro c hc
        have e : c = j := by omega
        subst e
        refine oh_go hG [(31, 7)] 40 ?_
        refine And.intro (fun _ => ?_) (fun q => absurd q (by omega))
        refine And.intro (fun q => ?_) (fun q => ?_)
        · rw [h2 q]
          exact h
        · have e0 : c = 0 := by omega
          subst e0
          have h1 := h1 (by omega)
          refine And.intro (fun y => ?_) (fun y => ?_)
          · rw [if_neg y] at h1
            show Post (some (oI b)) μ
            rw [h1]
            exact h
          · rw [if_pos (by omega)] at h1
            rw [← h1] at h
            exact h
      | succ k ih =>
        intro c hc
        have hr := itr_rg ht hb2 hh2 c
        have ec : 24 * itr (μ 30 0) hh c b + hh = itr (μ 30 0) hh c b * 24 + hh := by omega
        refine oh_go hG [(31, 7)] 40 ?_
        refine And.intro (fun q => absurd q (by omega)) (fun _ => ?_)
        refine And.intro (by omega) ?_
        refine And.intro (by omega) ?_
        refine And.intro (by omega) ?_
        rw [ec]
        refine And.intro (by omega) ?_
        have ecc : ((c : Nat) : Int) + 1 = ((c + 1 : Nat) : Int) := by omega
        rw [ecc]
        exact ih (c + 1) (by omega)
    rcases act_d (law := l) ht hh2 hb2 hl2 x with ⟨h2, h3⟩ | ⟨j, h2, h3, h4⟩
    · rw [h2]
      exact key (-1) 0 (Or.inl ⟨rfl, rfl⟩) (fun _ => h3.symm) (fun q => absurd rfl q) 0 0 rfl
    · rw [h3]
      exact key (j : Int) j (Or.inr ⟨rfl, h2⟩) (fun q => absurd q (by omega)) (fun _ => h4.symm) j 0 (by omega)
  · have x : l = 1 := Classical.not_not.mp x
    have ec : 24 * b + hh = b * 24 + hh := by omega
    refine And.intro (by omega) ?_
    refine And.intro (by omega) ?_
    refine And.intro (by omega) ?_
    rw [ec]
    have e : act (μ 30 0) l b hh = μ 30 0 (b * 24 + hh) := if_pos x
    rw [e] at h
    exact h
