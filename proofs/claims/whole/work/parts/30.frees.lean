/-! FREES, WORD, HEIR -/
theorem itr_hr {w w' : Int → Int} (ht : tok w) {x : Int} (hx : 0 ≤ x ∧ x ≤ 23) (h : ∀ b, 0 ≤ b → b ≤ 5 → w (b * 24 + x) = w' (b * 24 + x)) {b : Int} (hb : 0 ≤ b ∧ b ≤ 5) : ∀ k : Nat, itr w x k b = itr w' x k b
  | 0 => rfl
  | k + 1 => by
    have hr := itr_rg ht hb hx k
    show w (itr w x k b * 24 + x) = w' (itr w' x k b * 24 + x)
    rw [← itr_hr ht hx h hb k]
    exact h _ hr.1 hr.2
theorem act_hr {w w' : Int → Int} (ht : tok w) {x : Int} (hx : 0 ≤ x ∧ x ≤ 23) (h : ∀ b, 0 ≤ b → b ≤ 5 → w (b * 24 + x) = w' (b * 24 + x)) {law b : Int} (hb : 0 ≤ b ∧ b ≤ 5) : act w law b x = act w' law b x := by
  have hr := itr_rg ht hb hx 6
  unfold act
  rw [← itr_hr ht hx h hb 6, h b hb.1 hb.2, h (itr w x 6 b) hr.1 hr.2]
def setw (w : Int → Int) (c v : Int) : Int → Int := fun c' => if c' = c then v else w c'
theorem sm_one {f g : Int → Int} {h : Int} (h0 : 0 ≤ h) : ∀ n : Nat, h < n → (∀ j : Int, 0 ≤ j → j < n → ¬ j = h → f j = g j) → sm f n - sm g n = f h - g h
  | 0, h1, _ => absurd h1 (by omega)
  | n + 1, h1, hj => by
    show sm f n + f n - (sm g n + g n) = f h - g h
    by_cases e : h = n
    · have : sm f n = sm g n := sm_congr n (fun j a b => hj j a (by omega) (by omega))
      rw [e, this]
      omega
    · have := sm_one h0 n (by omega) (fun j a b c => hj j a (by omega) c)
      have := hj n (by omega) (by omega) (fun z => e z.symm)
      omega
theorem setw_tok {w : Int → Int} {c v : Int} (ht : tok w) (hv : 0 ≤ v ∧ v ≤ 5) : tok (setw w c v) := fun c' a b => by
  unfold setw
  split
  · exact hv
  · exact ht c' a b
/-- how many fewer are wronged when a cell goes back to its body -/
def frw (w : Int → Int) (law b h : Int) : Int := wrg w law - wrg (setw w (b * 24 + h) b) law
theorem frw_h {w : Int → Int} {law b h : Int} (ht : tok w) (hb : 0 ≤ b ∧ b ≤ 5) (hh : 0 ≤ h ∧ h ≤ 23) : frw w law b h = wrI w law h - wrI (setw w (b * 24 + h) b) law h := by
  unfold frw
  rw [wrg_h, wrg_h]
  refine sm_one hh.1 24 (by omega) (fun j a c d => sm_congr 6 (fun b' x y => ?_))
  unfold wr1
  rw [act_hr ht (x := j) (w' := setw w (b * 24 + h) b) (by omega) (fun b2 p q => ?_) (by omega)]
  unfold setw
  rw [if_neg (by omega)]
noncomputable def frA (A : Ab) (g : Int) : Int := frw (aw A) (A 2 2) (bo 0 (A 0) g) (ho 0 (A 0) g)
theorem frA_rg {A : Ab} (g : Int) : -144 ≤ frA A g ∧ frA A g ≤ 144 := by
  have h : ∀ w : Int → Int, 0 ≤ wrg w (A 2 2) ∧ wrg w (A 2 2) ≤ 144 := fun w => by
    have := sm_rg (f := fun c => wr1 w (A 2 2) (c % 24) (c / 24)) (a := 0) (b := 1) (fun j => (wr1_rg _ _ _ _).1) (fun j => (wr1_rg _ _ _ _).2) 144
    unfold wrg
    omega
  have h1 := h (aw A)
  have h2 := h (setw (aw A) (bo 0 (A 0) g * 24 + ho 0 (A 0) g) (bo 0 (A 0) g))
  unfold frA frw
  omega
def T_X4_freedBy : Tr := tO1 13 fun n g μ Post => ∃ A, RepC A μ ∧ (0 ≤ g ∧ g < tE 0 A) ∧ ∀ μ', RepC A μ' → FrC μ μ' → Post (some (oI (frA A g))) μ'
theorem ok_X4_freedBy : oh_Ok (pg_X4_freedBy T_X3_hourOf T_X3_bodyOf T_X1_takeFrom T_X1_setOwner T_X1_wrongedIn) 4 T_X4_freedBy := by
  refine tO1_ok fun n g μ Post G hG hn hg hM h => ?_
  obtain rfl := n13 hn
  obtain ⟨A, hR, hg2, h⟩ := h
  have e12 : μ 12 0 = A 0 := hR.1.1.2.2.2.2.2
  obtain ⟨⟨a1, a2, a3⟩, a4, a5, a6, a7⟩ := gr_at hR hg2.1 hg2.2
  have ht := tokA hR
  have hh := frw_h (law := A 2 2) ht.1 a4 a5
  refine oh_go hG [] 60 ?_
  refine And.intro ⟨a2, ?_⟩ trivial
  refine And.intro ⟨a1, ?_⟩ trivial
  rw [e12]
  refine And.intro ?_ trivial
  refine And.intro ⟨⟨a4, a5⟩, ?_⟩ trivial
  have e80 : ∀ c, oh_up (oh_cp μ 8 0 0 8 1 0 144) 8 1 (bo 0 (A 0) g * 24 + ho 0 (A 0) g) (bo 0 (A 0) g) 8 0 c = μ 8 0 c := fun c => by
    rw [oh_up_o (fun q => absurd q.2.1 (by decide))]
    exact if_neg (fun q => absurd q.2.1 (by decide))
  have e81 : ∀ c, 0 ≤ c → c < 144 → oh_up (oh_cp μ 8 0 0 8 1 0 144) 8 1 (bo 0 (A 0) g * 24 + ho 0 (A 0) g) (bo 0 (A 0) g) 8 1 c = setw (aw A) (bo 0 (A 0) g * 24 + ho 0 (A 0) g) (bo 0 (A 0) g) c := fun c c0 c1 => by
    unfold setw
    by_cases e : c = bo 0 (A 0) g * 24 + ho 0 (A 0) g
    · rw [if_pos e, e, oh_up_s]
    · rw [if_neg e, oh_up_o (fun q => e q.2.2)]
      have : oh_cp μ 8 0 0 8 1 0 144 8 1 c = μ 8 0 (0 + (c - 0)) := if_pos ⟨rfl, rfl, by omega, by omega⟩
      have e2 : 0 + (c - 0) = c := by omega
      rw [this, e2]
      exact hR.2.1 c c0 c1
  have eo : ∀ s n, ¬ (s = 8 ∧ n = 1) → oh_up (oh_cp μ 8 0 0 8 1 0 144) 8 1 (bo 0 (A 0) g * 24 + ho 0 (A 0) g) (bo 0 (A 0) g) s n = μ s n := fun s n hs => funext fun c => by
    rw [oh_up_o (fun q => hs ⟨q.1, q.2.1⟩)]
    exact if_neg (fun q => hs ⟨q.1, q.2.1⟩)
  generalize oh_up (oh_cp μ 8 0 0 8 1 0 144) 8 1 (bo 0 (A 0) g * 24 + ho 0 (A 0) g) (bo 0 (A 0) g) = μ2 at *
  have hR2 : RepC A μ2 := RepC_keep hR (fun s n _ hs => eo s n (by omega))
  have hF2 : FrC μ μ2 := fun s n hs => eo s n (by omega)
  have el := (law_at hR2).1
  have t2 : tok (μ2 8 1) := tok_congr (setw_tok ht.1 a4) (fun c x y => (e81 c x y).symm)
  have w1 := wrI_congr (law := A 2 2) (tokA hR2).2 hR2.2.1 a5
  have w2 := wrI_congr (law := A 2 2) t2 e81 a5
  have g1 := wrI_rg (aw A) (A 2 2) (ho 0 (A 0) g)
  have g2 := wrI_rg (setw (aw A) (bo 0 (A 0) g * 24 + ho 0 (A 0) g) (bo 0 (A 0) g)) (A 2 2) (ho 0 (A 0) g)
  refine And.intro ⟨⟨(tokA hR2).2, a5⟩, ?_⟩ trivial
  refine And.intro ⟨⟨t2, a5⟩, ?_⟩ trivial
  rw [el, w1, w2]
  refine And.intro (by omega) ?_
  have h := h μ2 hR2 hF2
  unfold frA at h
  rw [hh] at h
  exact h
noncomputable def s_frees (A : Ab) (g : Int) : Int × Ab := if 0 ≤ g ∧ g < tE 0 A then (frA A g, A) else (-1002, A)
def T_X4_frees : Tr := tC1 s_frees
theorem ok_X4_frees : oh_Ok (pg_X4_frees T_X3_entries T_X4_isBelow T_X4_freedBy) 2 T_X4_frees := by
  refine tO1_ok fun n g μ Post G hG hn hg hM h => ?_
  obtain rfl := n13 hn
  obtain ⟨A, hR, h⟩ := h
  unfold s_frees at h
  refine oh_go hG [] 40 ?_
  refine And.intro ⟨RepT_tq hR.1.1, ?_⟩ trivial
  rw [RepT_ents hR.1.1]
  refine And.intro ?_ trivial
  refine And.intro (fun x => ⟨fun y => absurd y (by decide), fun _ => ?_⟩) (fun x => ⟨fun _ => ?_, fun y => absurd rfl y⟩)
  · rw [if_pos x] at h
    refine And.intro ⟨A, hR, x, fun μ1 g1 g2 => h μ1 g1 g2⟩ trivial
  · rw [if_neg x] at h
    exact h μ hR FrC_rf
/-- the grant that frees the most: k to go from g on -/
def wd (f : Int → Int) : Nat → Int → Int → Int → Int
  | 0, _, b, _ => b
  | k + 1, g, b, m => if b = -1 ∨ m < f g then wd f k (g + 1) g (f g) else wd f k (g + 1) b m
noncomputable def s_word (A : Ab) : Int × Ab := (wd (frA A) (tE 0 A).toNat 0 (-1) 0, A)
def T_X4_word : Tr := tC0 s_word
theorem ok_X4_word : oh_Ok (pg_X4_word T_X3_entries T_X4_freedBy) 6 T_X4_word := by
  refine tO0_ok fun n μ Post G hG hn hM h => ?_
  obtain rfl := n13 hn
  obtain ⟨A, hR, h⟩ := h
  unfold s_word at h
  dsimp only at h
  have hE := tE_rg (RepX_len hR (n := 0) (by omega))
  have key : ∀ (k : Nat) (g b m : Int) (r : Option AV) (μ1 : Mem), 0 ≤ g → g + k = tE 0 A → RepC A μ1 → FrC μ μ1 → wd (frA A) k g b m = wd (frA A) (tE 0 A).toNat 0 (-1) 0 → G 15 [some (oR 13 0), some (oI (tE 0 A)), some (oI b), some (oI m), some (oI g), r] [] μ1 := by
    intro k
    induction k with
    | zero =>
      intro g b m r μ1 h0 h1 g1 g2 he
      refine oh_go hG [(15, 6)] 40 ?_
      refine And.intro (fun _ => ?_) (fun q => absurd q (by omega))
      rw [← he] at h
      exact h μ1 g1 g2
    | succ k ih =>
      intro g b m r μ1 h0 h1 g1 g2 he
      have he : (if b = -1 ∨ m < frA A g then wd (frA A) k (g + 1) g (frA A g) else wd (frA A) k (g + 1) b m) = wd (frA A) (tE 0 A).toNat 0 (-1) 0 := he
      refine oh_go hG [(15, 6)] 40 ?_
      refine And.intro (fun q => absurd q (by omega)) (fun _ => ?_)
      refine And.intro ⟨A, g1, by omega, fun μ2 k1 k2 => ?_⟩ trivial
      refine And.intro (fun q => ?_) (fun q => ?_)
      · rw [if_pos (Or.inl q)] at he
        exact ⟨by omega, ih _ _ _ _ _ (by omega) (by omega) k1 (FrC_tr g2 k2) he⟩
      · refine And.intro (fun z => ?_) (fun z => ?_)
        · rw [if_neg (by omega)] at he
          exact ⟨by omega, ih _ _ _ _ _ (by omega) (by omega) k1 (FrC_tr g2 k2) he⟩
        · rw [if_pos (Or.inr (by omega))] at he
          exact ⟨by omega, ih _ _ _ _ _ (by omega) (by omega) k1 (FrC_tr g2 k2) he⟩
  refine oh_go hG [(15, 6)] 40 ?_
  refine And.intro ⟨RepT_tq hR.1.1, ?_⟩ trivial
  rw [RepT_ents hR.1.1]
  exact key _ 0 (-1) 0 none μ (by omega) (by omega) hR FrC_rf rfl
/-- hours that an heir would hold -/
noncomputable def hrA (A : Ab) (f t : Int) : Int := sm (fun c => if act (beq_ (aw A) f t) (A 2 2) (c / 24) (c % 24) = t then 1 else 0) 144
noncomputable def s_heir (A : Ab) (f t : Int) : Int × Ab := if (0 ≤ f ∧ f < 6) ∧ (0 ≤ t ∧ t < 6) ∧ f ≠ t then (hrA A f t, A) else (-2, A)
def T_X4_heir : Tr := tC2 s_heir
theorem beq_tok {w : Int → Int} {f t : Int} (ht : tok w) (hv : 0 ≤ t ∧ t ≤ 5) : tok (beq_ w f t) := fun c a b => by
  unfold beq_
  split
  · exact hv
  · exact ht c a b
theorem ok_X4_heir : oh_Ok (pg_X4_heir T_X4_areTwo T_X1_takeFrom T_X1_bequeath T_X1_actor) 6 T_X4_heir := by
  refine tO2_ok fun n f t μ Post G hG hn hf ht hM h => ?_
  obtain rfl := n13 hn
  obtain ⟨A, hR, h⟩ := h
  unfold s_heir at h
  refine oh_go hG [(36, 5)] 40 ?_
  refine And.intro ?_ trivial
  refine And.intro (fun x => ⟨fun _ => ?_, fun y => absurd (by decide) y⟩) (fun x => ⟨fun y => absurd rfl y, fun _ => ?_⟩)
  · rw [if_pos x] at h
    dsimp only at h
    unfold hrA at h
    have htk := tokA hR
    refine And.intro ?_ trivial
    refine And.intro (fun μ2 k1 k2 => ?_) trivial
    have e81 : ∀ c, 0 ≤ c → c < 144 → μ2 8 1 c = beq_ (aw A) f t c := fun c c0 c1 => by
      have : oh_cp μ 8 0 0 8 1 0 144 8 1 c = μ 8 0 (0 + (c - 0)) := if_pos ⟨rfl, rfl, by omega, by omega⟩
      have e2 : 0 + (c - 0) = c := by omega
      rw [k2 c c0 c1]
      unfold beq_
      rw [this, e2, hR.2.1 c c0 c1]
    have eo : ∀ s n, ¬ (s = 8 ∧ n = 1) → μ2 s n = μ s n := fun s n hs => funext fun c => by
      rw [k1 s n c (fun q => hs ⟨q.1, q.2.1⟩)]
      exact if_neg (fun q => hs ⟨q.1, q.2.1⟩)
    have hR2 : RepC A μ2 := RepC_keep hR (fun s n _ hs => eo s n (by omega))
    have hF2 : FrC μ μ2 := fun s n hs => eo s n (by omega)
    have el := (law_at hR2).1
    have t2 : tok (μ2 8 1) := tok_congr (beq_tok htk.1 (by omega)) (fun c x y => (e81 c x y).symm)
    have h := h μ2 hR2 hF2
    generalize hFc : (fun c => if act (beq_ (aw A) f t) (A 2 2) (c / 24) (c % 24) = t then (1 : Int) else 0) = Fc at h
    have hF0 : ∀ j, 0 ≤ Fc j := fun j => by
      rw [← hFc]
      dsimp only
      split <;> omega
    have hF1 : ∀ j, Fc j ≤ 1 := fun j => by
      rw [← hFc]
      dsimp only
      split <;> omega
    have hFa : ∀ b x, 0 ≤ b → b < 6 → 0 ≤ x → x < 24 → Fc (b * 24 + x) = if act (μ2 8 1) (A 2 2) b x = t then 1 else 0 := fun b x b0 b1 x0 x1 => by
      rw [← hFc]
      dsimp only
      have e1 : (b * 24 + x) / 24 = b := by omega
      have e2 : (b * 24 + x) % 24 = x := by omega
      rw [e1, e2, act_congr t2 e81 (by omega) (by omega)]
    have key : ∀ b, 0 ≤ b → b ≤ 6 → G 36 [some (oR 13 0), some (oI f), some (oI t), some (oI (sm Fc (b * 24).toNat)), some (oI b), none] [] μ2 := by
      refine oh_for (F := fun b => 0 ≤ b → b ≤ 6 → G 36 [some (oR 13 0), some (oI f), some (oI t), some (oI (sm Fc (b * 24).toNat)), some (oI b), none] [] μ2) 6 ?_ ?_
      · intro b hb h0 h1
        have e : b = 6 := by omega
        subst e
        refine oh_go hG [(36, 5), (46, 6)] 40 ?_
        exact ⟨fun _ => h, fun q => absurd hb q⟩
      · intro b hb ih h0 h1
        have ih := ih (by omega) (by omega)
        have key2 : ∀ c, 0 ≤ c → c ≤ 24 → G 46 [some (oR 13 0), some (oI f), some (oI t), some (oI (sm Fc (b * 24 + c).toNat)), some (oI b), some (oI c)] [] μ2 := by
          refine oh_for (F := fun c => 0 ≤ c → c ≤ 24 → G 46 [some (oR 13 0), some (oI f), some (oI t), some (oI (sm Fc (b * 24 + c).toNat)), some (oI b), some (oI c)] [] μ2) 24 ?_ ?_
          · intro c hc c0 c1
            have e : c = 24 := by omega
            subst e
            have e2 : (b + 1) * 24 = b * 24 + 24 := by omega
            rw [e2] at ih
            refine oh_go hG [(36, 5), (46, 6)] 40 ?_
            exact ⟨fun _ => ⟨by omega, ih⟩, fun q => absurd hc q⟩
          · intro c hc ih c0 c1
            have ih := ih (by omega) (by omega)
            have e2 : b * 24 + (c + 1) = b * 24 + c + 1 := by omega
            rw [e2, sm_s _ (by omega), hFa b c h0 hb c0 hc] at ih
            have hr := sm_rg (f := Fc) (a := 0) (b := 1) hF0 hF1 (b * 24 + c).toNat
            refine oh_go hG [(36, 5), (46, 6)] 40 ?_
            refine And.intro (fun q => absurd q (by omega)) (fun _ => ?_)
            refine And.intro ⟨⟨t2, by omega, by omega⟩, ?_⟩ trivial
            rw [el]
            refine And.intro (fun q => ?_) (fun q => ?_)
            · rw [if_neg q, Int.add_zero] at ih
              exact ⟨by omega, ih⟩
            · rw [if_pos (Classical.not_not.mp q)] at ih
              exact ⟨by omega, by omega, ih⟩
        have k0 := key2 0 (by omega) (by omega)
        rw [Int.add_zero] at k0
        refine oh_go hG [(36, 5), (46, 6)] 40 ?_
        exact ⟨fun q => absurd q (by omega), fun _ => k0⟩
    exact key 0 (by omega) (by omega)
  · rw [if_neg x] at h
    exact h μ hR FrC_rf
