/-! THE MODEL: frees, word, heir, write -/
theorem gr_k {A : Ab} {μ : Mem} (hK : Ki A μ) {g : Int} (h0 : 0 ≤ g) (h1 : g < tE 0 A) : (μ 29 0 (3 * g) = bo 0 (A 0) g ∧ μ 29 0 (3 * g + 1) = ho 0 (A 0) g ∧ μ 29 0 (3 * g + 2) = la 0 (A 0) g) ∧ (0 ≤ bo 0 (A 0) g ∧ bo 0 (A 0) g ≤ 5) ∧ (0 ≤ ho 0 (A 0) g ∧ ho 0 (A 0) g ≤ 23) := by
  obtain ⟨-, e2, e3, -⟩ := ent_ok (hK.1.1 0 (by omega)).1 h0 h1
  exact ⟨hK.2.2.1.2.1 g h0 h1, e2, e3⟩
theorem wrg_rg (w : Int → Int) (l : Int) : 0 ≤ wrg w l ∧ wrg w l ≤ 144 := by
  have := sm_rg (f := fun c => wr1 w l (c % 24) (c / 24)) (a := 0) (b := 1) (fun j => (wr1_rg _ _ _ _).1) (fun j => (wr1_rg _ _ _ _).2) 144
  unfold wrg
  omega
def T_X5_freesOf : Tr := tO1 22 fun n g μ Post => ∃ A, Ki A μ ∧ (0 ≤ g ∧ g < tE 0 A) ∧ Post (some (oI (frA A g))) μ
theorem ok_X5_freesOf : oh_Ok (pg_X5_freesOf T_X5_wrongedBy) 5 T_X5_freesOf := by
  refine tO1_ok fun n g μ Post G hG hn hg hM h => ?_
  obtain rfl := n22 hn
  obtain ⟨A, hK, hg2, h⟩ := h
  obtain ⟨⟨a1, a2, a3⟩, a4, a5⟩ := gr_k hK hg2.1 hg2.2
  have hE := tE_rg (hK.1.1 0 (by omega)).1
  have ht := ki_tok hK
  have hl := ki_law hK
  unfold frA frw at h
  generalize bo 0 (A 0) g = B at *
  generalize ho 0 (A 0) g = H at *
  have ec : 24 * B + H = B * 24 + H := by omega
  have r1 := wrg_rg (aw A) (A 2 2)
  have r2 := wrg_rg (setw (aw A) (B * 24 + H) B) (A 2 2)
  have e30 : ∀ c, 0 ≤ c → c < 144 → oh_up μ 30 0 (B * 24 + H) B 30 0 c = setw (aw A) (B * 24 + H) B c := fun c x y => by
    unfold setw
    by_cases e : c = B * 24 + H
    · rw [e, oh_up_s, if_pos rfl]
    · rw [oh_up_o (fun q => e q.2.2), if_neg e, ki_w hK c x y]
  have t2 : tok (oh_up μ 30 0 (B * 24 + H) B 30 0) := tok_congr (setw_tok ht.1 a4) (fun c x y => (e30 c x y).symm)
  have w2 := wrg_congr t2 e30 (A 2 2)
  have eback : oh_up (oh_up μ 30 0 (B * 24 + H) B) 30 0 (B * 24 + H) (μ 30 0 (B * 24 + H)) = μ := funext fun s => funext fun n => funext fun j => by
    by_cases e : s = 30 ∧ n = 0 ∧ j = B * 24 + H
    · obtain ⟨rfl, rfl, rfl⟩ := e
      rw [oh_up_s]
    · rw [oh_up_o e, oh_up_o e]
  have e13 : oh_up μ 30 0 (B * 24 + H) B 22 0 13 = A 2 2 := by rw [oh_up_o (by omega), hl.1]
  refine oh_go hG [] 60 ?_
  refine And.intro ⟨⟨ht.2, by rw [hl.1]; exact hl.2⟩, ?_⟩ trivial
  rw [hl.1, ki_wrg hK]
  refine And.intro (by omega) ?_
  refine And.intro (by omega) ?_
  rw [a1]
  refine And.intro (by omega) ?_
  refine And.intro (by omega) ?_
  refine And.intro (by omega) ?_
  refine And.intro (by omega) ?_
  rw [a2]
  refine And.intro (by omega) ?_
  rw [ec]
  refine And.intro (by omega) ?_
  refine And.intro (by omega) ?_
  refine And.intro (by omega) ?_
  have ed : (B * 24 + H) / 24 = B := by omega
  rw [ed]
  refine And.intro ⟨⟨t2, by rw [e13]; exact hl.2⟩, ?_⟩ trivial
  rw [e13, w2]
  refine And.intro (by omega) ?_
  refine And.intro (by omega) ?_
  rw [eback]
  exact h
def T_X5_frees : Tr := tM1 s_frees
theorem ok_X5_frees : oh_Ok (pg_X5_frees T_X5_reads T_X5_in T_X5_freesOf) 2 T_X5_frees := by
  refine tO1_ok fun n g μ Post G hG hn hg hM h => ?_
  obtain rfl := n22 hn
  obtain ⟨A, hV, hR, h⟩ := h
  unfold s_frees at h
  refine oh_go hG [] 40 ?_
  refine And.intro ⟨A, hV, hR, fun μ1 k1 k2 => ?_⟩ trivial
  obtain ⟨hK, hF⟩ := ki_rd hV hR k1 k2
  have hE := tE_rg (hV.1 0 (by omega)).1
  have c8 := (Rd_n hK.2.2).1
  refine And.intro (by omega) ?_
  rw [c8]
  refine And.intro ?_ trivial
  refine And.intro (fun w => ⟨fun y => absurd y (by decide), fun _ => ?_⟩) (fun w => ⟨fun _ => ?_, fun y => absurd rfl y⟩)
  · have w : 0 ≤ g ∧ g ≤ tE 0 A - 1 := w
    rw [if_pos (by omega)] at h
    dsimp only at h
    refine And.intro ⟨A, hK, by omega, ?_⟩ trivial
    exact h μ1 hK.2.1 hF
  · have w : ¬ (0 ≤ g ∧ g ≤ tE 0 A - 1) := w
    rw [if_neg (by omega)] at h
    exact h μ1 hK.2.1 hF
def T_X5_wordNow : Tr := tO0 22 fun n μ Post => ∃ A, Ki A μ ∧ Post (some (oI (wd (frA A) (tE 0 A).toNat 0 (-1) 0))) μ
theorem ok_X5_wordNow : oh_Ok (pg_X5_wordNow T_X5_freesOf) 6 T_X5_wordNow := by
  refine tO0_ok fun n μ Post G hG hn hM h => ?_
  obtain rfl := n22 hn
  obtain ⟨A, hK, h⟩ := h
  have hE := tE_rg (hK.1.1 0 (by omega)).1
  have c8 := (Rd_n hK.2.2).1
  have key : ∀ (k : Nat) (g b m : Int), 0 ≤ g → g + k = tE 0 A → wd (frA A) k g b m = wd (frA A) (tE 0 A).toNat 0 (-1) 0 → G 6 [some (oR 22 0), some (oI b), some (oI m), some (oI g), none, none] [] μ := by
    intro k
    induction k with
    | zero =>
      intro g b m h0 h1 he
      refine oh_go hG [(6, 4)] 40 ?_
      refine And.intro (fun _ => ?_) (fun q => absurd q (by omega))
      rw [← he] at h
      exact h
    | succ k ih =>
      intro g b m h0 h1 he
      have he : (if b = -1 ∨ m < frA A g then wd (frA A) k (g + 1) g (frA A g) else wd (frA A) k (g + 1) b m) = wd (frA A) (tE 0 A).toNat 0 (-1) 0 := he
      refine oh_go hG [(6, 4)] 40 ?_
      refine And.intro (fun q => absurd q (by omega)) (fun _ => ?_)
      refine And.intro ⟨A, hK, by omega, ?_⟩ trivial
      refine And.intro (fun q => ?_) (fun q => ?_)
      · rw [if_pos (Or.inl q)] at he
        refine And.intro (fun y => absurd y (by decide)) (fun _ => ?_)
        refine And.intro (fun y => absurd y (by decide)) (fun _ => ?_)
        exact ⟨by omega, ih _ _ _ (by omega) (by omega) he⟩
      · refine And.intro (fun z => ?_) (fun z => ?_)
        · rw [if_neg (by omega)] at he
          refine And.intro (fun _ => ?_) (fun y => absurd rfl y)
          refine And.intro (fun _ => ?_) (fun y => absurd rfl y)
          exact ⟨by omega, ih _ _ _ (by omega) (by omega) he⟩
        · rw [if_pos (Or.inr (by omega))] at he
          refine And.intro (fun y => absurd y (by decide)) (fun _ => ?_)
          refine And.intro (fun y => absurd y (by decide)) (fun _ => ?_)
          exact ⟨by omega, ih _ _ _ (by omega) (by omega) he⟩
  refine oh_go hG [(6, 4)] 10 ?_
  exact key (tE 0 A).toNat 0 (-1) 0 (by omega) (by omega) rfl
def T_X5_word : Tr := tM0 s_word
theorem ok_X5_word : oh_Ok (pg_X5_word T_X5_reads T_X5_wordNow) 1 T_X5_word := by
  refine tO0_ok fun n μ Post G hG hn hM h => ?_
  obtain rfl := n22 hn
  obtain ⟨A, hV, hR, h⟩ := h
  unfold s_word at h
  dsimp only at h
  refine oh_go hG [] 40 ?_
  refine And.intro ⟨A, hV, hR, fun μ1 k1 k2 => ?_⟩ trivial
  obtain ⟨hK, hF⟩ := ki_rd hV hR k1 k2
  refine And.intro ⟨A, hK, ?_⟩ trivial
  exact h μ1 hK.2.1 hF
theorem kR_tr {μ μ1 μ2 : Mem} (h : kR μ μ1) (h' : kR μ1 μ2) : kR μ μ2 := fun s n j hs => (h' s n j hs).trans (h s n j hs)
theorem kG_R {μ μ1 : Mem} (h : kG μ μ1) : kR μ μ1 := fun s n j hs => h s n j (by omega)
def T_X5_heirOf : Tr := tO2 22 fun n f t μ Post => ∃ A, Ki A μ ∧ (0 ≤ f ∧ f ≤ 5) ∧ (0 ≤ t ∧ t ≤ 5) ∧ ∀ μ', Ki A μ' → kR μ μ' → Post (some (oI (hrA A f t))) μ'
theorem ok_X5_heirOf : oh_Ok (pg_X5_heirOf T_X5_holdsOf T_X5_readsGrants) 4 T_X5_heirOf := by
  refine tO2_ok fun n f t μ Post G hG hn hf ht hM h => ?_
  obtain rfl := n22 hn
  obtain ⟨A, hK, hf2, ht2, h⟩ := h
  have key : ∀ c, 0 ≤ c → c ≤ 144 → ∀ μ1, (∀ s n j, ¬ (s = 30 ∧ n = 0) → μ1 s n j = μ s n j) → (∀ j, 0 ≤ j → j < 144 → μ1 30 0 j = if j < c then beq_ (aw A) f t j else aw A j) → G 2 [some (oR 22 0), some (oI f), some (oI t), some (oI c)] [] μ1 := by
    refine oh_for (F := fun c => 0 ≤ c → c ≤ 144 → ∀ μ1, (∀ s n j, ¬ (s = 30 ∧ n = 0) → μ1 s n j = μ s n j) → (∀ j, 0 ≤ j → j < 144 → μ1 30 0 j = if j < c then beq_ (aw A) f t j else aw A j) → G 2 [some (oR 22 0), some (oI f), some (oI t), some (oI c)] [] μ1) 144 ?_ ?_
    · intro c hc h0 h1 μ1 g1 g2
      have e30 : ∀ j, 0 ≤ j → j < 144 → μ1 30 0 j = beq_ (aw A) f t j := fun j a b => by rw [g2 j a b, if_pos (by omega)]
      have t1 : tok (μ1 30 0) := tok_congr (beq_tok (ki_tok hK).1 ht2) (fun c x y => (e30 c x y).symm)
      have e13 : μ1 22 0 13 = A 2 2 := by rw [g1 _ _ _ (by omega)]; exact (ki_law hK).1
      have ehl : hld (μ1 30 0) (A 2 2) t = hrA A f t := sm_congr 144 (fun c a b => by rw [act_congr t1 e30 (by omega) (by omega)])
      have kr : kR μ μ1 := fun s n j hs => g1 s n j (by omega)
      refine oh_go hG [(2, 4)] 40 ?_
      refine And.intro (fun _ => ?_) (fun q => absurd hc q)
      refine And.intro ⟨⟨t1, by rw [e13]; exact (ki_law hK).2⟩, ?_⟩ trivial
      rw [e13, ehl]
      refine And.intro ⟨A, hK.1, RepM_k hK.2.1 (kR_k kr), fun μ2 k1 k2 => ?_⟩ trivial
      have kr2 := kR_tr kr (kG_R k1)
      refine h μ2 ⟨hK.1, RepM_k hK.2.1 (kR_k kr2), k2, RdO_keep hK.2.2.2 ?_ (funext fun j => ?_)⟩ kr2
      · rw [k1 _ _ _ (by omega), g1 _ _ _ (by omega)]
      · rw [k1 _ _ _ (by omega), g1 _ _ _ (by omega)]
    · intro c hc ih h0 h1 μ1 g1 g2
      have ih := ih (by omega) (by omega)
      have ew : μ1 30 0 c = aw A c := by rw [g2 c h0 hc, if_neg (by omega)]
      have hput : ∀ v : Int, v = beq_ (aw A) f t c → G 2 [some (oR 22 0), some (oI f), some (oI t), some (oI (c + 1))] [] (oh_up μ1 30 0 c v) := fun v hv => by
        refine ih _ (fun s n j hs => ?_) (fun j a b => ?_)
        · rw [oh_up_o (fun q => hs ⟨q.1, q.2.1⟩)]
          exact g1 s n j hs
        · by_cases e : j = c
          · rw [e, oh_up_s, if_pos (by omega), hv]
          · rw [oh_up_o (fun q => e q.2.2), g2 j a b]
            by_cases e2 : j < c
            · rw [if_pos e2, if_pos (by omega)]
            · rw [if_neg e2, if_neg (by omega)]
      refine oh_go hG [(2, 4)] 40 ?_
      refine And.intro (fun q => absurd q (by omega)) (fun _ => ?_)
      refine And.intro (by omega) ?_
      rw [ew]
      refine And.intro (fun q => ?_) (fun q => ?_)
      · refine And.intro (by omega) ?_
        refine And.intro (by omega) ?_
        refine And.intro (by omega) ?_
        rw [ew]
        refine hput _ ?_
        unfold beq_
        rw [if_neg (fun z => q z.1)]
      · refine And.intro (by omega) ?_
        refine And.intro (fun r => ?_) (fun r => ?_)
        · refine And.intro (by omega) ?_
          refine And.intro (by omega) ?_
          refine And.intro (by omega) ?_
          rw [ew]
          refine hput _ ?_
          unfold beq_
          rw [if_neg (fun z => z.2 r)]
        · refine And.intro (by omega) ?_
          refine And.intro (by omega) ?_
          refine hput _ ?_
          unfold beq_
          rw [if_pos ⟨Classical.not_not.mp q, r⟩]
  refine oh_go hG [(2, 4)] 10 ?_
  exact key 0 (by omega) (by omega) μ (fun _ _ _ _ => rfl) (fun j a b => by rw [if_neg (by omega)]; exact ki_w hK j a b)
def T_X5_heir : Tr := tO2 22 fun n f t μ Post => ∃ A, ValA A ∧ RepM A μ ∧ ∀ μ', Ki A μ' → kR μ μ' → Post (some (oI (s_heir A f t).1)) μ'
theorem ok_X5_heir : oh_Ok (pg_X5_heir T_X5_reads T_X5_isBody T_X5_heirOf) 3 T_X5_heir := by
  refine tO2_ok fun n f t μ Post G hG hn hf ht hM h => ?_
  obtain rfl := n22 hn
  obtain ⟨A, hV, hR, h⟩ := h
  unfold s_heir at h
  refine oh_go hG [] 40 ?_
  refine And.intro ⟨A, hV, hR, fun μ1 k1 k2 => ?_⟩ trivial
  obtain ⟨hK, hF⟩ := ki_rd hV hR k1 k2
  have hbad : ¬ ((0 ≤ f ∧ f < 6) ∧ (0 ≤ t ∧ t < 6) ∧ f ≠ t) → Post (some (oI (-2))) μ1 := fun z => by
    rw [if_neg z] at h
    exact h μ1 hK k1
  refine And.intro ?_ trivial
  refine And.intro (fun q1 => ?_) (fun q1 => ⟨fun _ => hbad (by omega), fun y => absurd rfl y⟩)
  refine And.intro (fun y => absurd y (by decide)) (fun _ => ?_)
  refine And.intro ?_ trivial
  refine And.intro (fun q2 => ?_) (fun q2 => ⟨fun _ => hbad (by omega), fun y => absurd rfl y⟩)
  refine And.intro (fun y => absurd y (by decide)) (fun _ => ?_)
  refine And.intro (fun q3 => hbad (fun z => z.2.2 q3)) (fun q3 => ?_)
  rw [if_pos ⟨by omega, by omega, q3⟩] at h
  dsimp only at h
  refine And.intro ⟨A, hK, q1, q2, fun μ2 j1 j2 => ?_⟩ trivial
  exact h μ2 j1 (kR_tr k1 j2)
