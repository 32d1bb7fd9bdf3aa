/-! THE MODEL: questions of who acts -/
def Ki (A : Ab) (μ : Mem) : Prop := ValA A ∧ RepM A μ ∧ Rd A μ
theorem ki_rd {A : Ab} {μ μ1 : Mem} (hV : ValA A) (hR : RepM A μ) (k1 : kR μ μ1) (k2 : Rd A μ1) : Ki A μ1 ∧ FrM μ μ1 := ⟨⟨hV, RepM_k hR (kR_k k1), k2⟩, kM_Fr (kR_k k1)⟩
theorem ki_w {A : Ab} {μ : Mem} (h : Ki A μ) : ∀ c, 0 ≤ c → c < 144 → μ 30 0 c = aw A c := h.2.2.1.2.2
theorem ki_tok {A : Ab} {μ : Mem} (h : Ki A μ) : tok (aw A) ∧ tok (μ 30 0) := ⟨aw_tok (h.1.1 0 (by omega)).1, tok_congr (aw_tok (h.1.1 0 (by omega)).1) (fun c a b => (ki_w h c a b).symm)⟩
theorem ki_law {A : Ab} {μ : Mem} (h : Ki A μ) : μ 22 0 13 = A 2 2 ∧ 0 ≤ A 2 2 ∧ A 2 2 ≤ 2 := ⟨h.2.1.1.2.1, h.1.2.2.2.1⟩
theorem ki_act {A : Ab} {μ : Mem} (h : Ki A μ) {l b x : Int} (hb : 0 ≤ b ∧ b ≤ 5) (hx : 0 ≤ x ∧ x ≤ 23) : act (μ 30 0) l b x = act (aw A) l b x := act_congr (ki_tok h).2 (ki_w h) hb hx
theorem ki_an {A : Ab} {μ : Mem} (h : Ki A μ) {b x : Int} (hb : 0 ≤ b ∧ b ≤ 5) (hx : 0 ≤ x ∧ x ≤ 23) : act (μ 30 0) (μ 22 0 13) b x = an A b x := by
  rw [(ki_law h).1, ki_act h hb hx]
  rfl
def T_X5_actsNow : Tr := tO2 22 fun n b h μ Post => (tok (μ 30 0) ∧ (0 ≤ μ 22 0 13 ∧ μ 22 0 13 ≤ 2) ∧ (0 ≤ b ∧ b ≤ 5) ∧ 0 ≤ h ∧ h ≤ 23) ∧ Post (some (oI (act (μ 30 0) (μ 22 0 13) b h))) μ
theorem ok_X5_actsNow : oh_Ok (pg_X5_actsNow T_X5_actsBy) 3 T_X5_actsNow := by
  refine tO2_ok fun n b hh μ Post G hG hn hb hh0 hM h => ?_
  obtain rfl := n22 hn
  obtain ⟨⟨h1, h2, h3, h4⟩, h⟩ := h
  refine oh_go hG [] 10 ?_
  exact ⟨⟨⟨h1, h2, h3, h4⟩, h⟩, trivial⟩
/-- actsNow after the texts are read -/
theorem T_now {A : Ab} {μ : Mem} {Post : Po} {b x : Int} (h : Ki A μ) (hb : 0 ≤ b ∧ b ≤ 5) (hx : 0 ≤ x ∧ x ≤ 23) (hp : Post (some (oI (an A b x))) μ) : T_X5_actsNow [oR 22 0, oI b, oI x] μ Post := by
  refine ⟨⟨(ki_tok h).2, by rw [(ki_law h).1]; exact (ki_law h).2, hb, hx⟩, ?_⟩
  rw [ki_an h hb hx]
  exact hp
def T_X5_owns : Tr := tM2 s_owns
theorem ok_X5_owns : oh_Ok (pg_X5_owns T_X5_reads T_X5_isBody T_X5_isHour) 3 T_X5_owns := by
  refine tO2_ok fun n b x μ Post G hG hn hb hx hM h => ?_
  obtain rfl := n22 hn
  obtain ⟨A, hV, hR, h⟩ := h
  unfold s_owns at h
  refine oh_go hG [] 40 ?_
  refine And.intro ⟨A, hV, hR, fun μ1 k1 k2 => ?_⟩ trivial
  obtain ⟨hK, hF⟩ := ki_rd hV hR k1 k2
  refine And.intro ?_ trivial
  refine And.intro (fun w => ?_) (fun w => ⟨fun _ => ?_, fun y => absurd rfl y⟩)
  · refine And.intro (fun y => absurd y (by decide)) (fun _ => ?_)
    refine And.intro ?_ trivial
    refine And.intro (fun v => ?_) (fun v => ⟨fun _ => ?_, fun y => absurd rfl y⟩)
    · rw [if_pos (by omega)] at h
      refine And.intro (fun y => absurd y (by decide)) (fun _ => ?_)
      refine And.intro (by omega) ?_
      refine And.intro (by omega) ?_
      refine And.intro (by omega) ?_
      rw [ki_w hK _ (by omega) (by omega), show 24 * b + x = b * 24 + x by omega]
      exact h μ1 hK.2.1 hF
    · rw [if_neg (by omega)] at h
      exact h μ1 hK.2.1 hF
  · rw [if_neg (by omega)] at h
    exact h μ1 hK.2.1 hF
def T_X5_acts : Tr := tM2 s_acts
theorem ok_X5_acts : oh_Ok (pg_X5_acts T_X5_reads T_X5_isBody T_X5_isHour T_X5_actsNow) 3 T_X5_acts := by
  refine tO2_ok fun n b x μ Post G hG hn hb hx hM h => ?_
  obtain rfl := n22 hn
  obtain ⟨A, hV, hR, h⟩ := h
  unfold s_acts at h
  refine oh_go hG [] 40 ?_
  refine And.intro ⟨A, hV, hR, fun μ1 k1 k2 => ?_⟩ trivial
  obtain ⟨hK, hF⟩ := ki_rd hV hR k1 k2
  refine And.intro ?_ trivial
  refine And.intro (fun w => ?_) (fun w => ⟨fun _ => ?_, fun y => absurd rfl y⟩)
  · refine And.intro (fun y => absurd y (by decide)) (fun _ => ?_)
    refine And.intro ?_ trivial
    refine And.intro (fun v => ?_) (fun v => ⟨fun _ => ?_, fun y => absurd rfl y⟩)
    · rw [if_pos (by omega)] at h
      refine And.intro (fun y => absurd y (by decide)) (fun _ => ?_)
      exact ⟨T_now hK (by omega) (by omega) (h μ1 hK.2.1 hF), trivial⟩
    · rw [if_neg (by omega)] at h
      exact h μ1 hK.2.1 hF
  · rw [if_neg (by omega)] at h
    exact h μ1 hK.2.1 hF
theorem ki_sts {A : Ab} {μ : Mem} (h : Ki A μ) {b x : Int} (hb : 0 ≤ b ∧ b ≤ 5) (hx : 0 ≤ x ∧ x ≤ 23) : sts (μ 30 0) b x = sts (aw A) b x := stq_congr (ki_tok h).2 (ki_w h) hx 6 0 b hb
def T_X5_deep : Tr := tM2 s_deep
theorem ok_X5_deep : oh_Ok (pg_X5_deep T_X5_reads T_X5_isBody T_X5_isHour T_X5_deepOf) 3 T_X5_deep := by
  refine tO2_ok fun n b x μ Post G hG hn hb hx hM h => ?_
  obtain rfl := n22 hn
  obtain ⟨A, hV, hR, h⟩ := h
  unfold s_deep at h
  refine oh_go hG [] 40 ?_
  refine And.intro ⟨A, hV, hR, fun μ1 k1 k2 => ?_⟩ trivial
  obtain ⟨hK, hF⟩ := ki_rd hV hR k1 k2
  refine And.intro ?_ trivial
  refine And.intro (fun w => ?_) (fun w => ⟨fun _ => ?_, fun y => absurd rfl y⟩)
  · refine And.intro (fun y => absurd y (by decide)) (fun _ => ?_)
    refine And.intro ?_ trivial
    refine And.intro (fun v => ?_) (fun v => ⟨fun _ => ?_, fun y => absurd rfl y⟩)
    · rw [if_pos (by omega)] at h
      refine And.intro (fun y => absurd y (by decide)) (fun _ => ?_)
      refine And.intro ⟨⟨(ki_tok hK).2, by omega, by omega⟩, ?_⟩ trivial
      rw [ki_sts hK (by omega) (by omega)]
      exact h μ1 hK.2.1 hF
    · rw [if_neg (by omega)] at h
      exact h μ1 hK.2.1 hF
  · rw [if_neg (by omega)] at h
    exact h μ1 hK.2.1 hF
def T_X5_freeOf : Tr := tO1 22 fun n b μ Post => ∃ A, Ki A μ ∧ (0 ≤ b ∧ b ≤ 5) ∧ Post (some (oI ((mk (frB A b) 24 : Nat) : Int))) μ
theorem ok_X5_freeOf : oh_Ok (pg_X5_freeOf T_X5_actsNow) 4 T_X5_freeOf := by
  refine tO1_ok fun n b μ Post G hG hn hb hM h => ?_
  obtain rfl := n22 hn
  obtain ⟨A, hK, hb2, h⟩ := h
  have key : ∀ c, 0 ≤ c → c ≤ 24 → G 4 [some (oR 22 0), some (oI b), some (oI ((mk (frB A b) c.toNat : Nat) : Int)), some (oI c)] [] μ := by
    refine oh_for (F := fun c => 0 ≤ c → c ≤ 24 → G 4 [some (oR 22 0), some (oI b), some (oI ((mk (frB A b) c.toNat : Nat) : Int)), some (oI c)] [] μ) 24 ?_ ?_
    · intro c hc h0 h1
      have e : c = 24 := by omega
      subst e
      refine oh_go hG [(4, 4)] 40 ?_
      exact ⟨fun _ => h, fun q => absurd hc q⟩
    · intro c hc ih h0 h1
      have ih := ih (by omega) (by omega)
      refine oh_go hG [(4, 4)] 40 ?_
      refine And.intro (fun q => absurd q (by omega)) (fun _ => ?_)
      refine And.intro (T_now hK hb2 (by omega) ?_) trivial
      refine And.intro (fun q => ?_) (fun q => ?_)
      · rw [mk_skip h0 (by unfold frB; rw [decide_eq_true_eq]; exact q)] at ih
        refine And.intro (by omega) ?_
        rw [oh_or_0 (mk_lt31 _ (by omega))]
        exact ih
      · refine And.intro (by omega) ?_
        rw [mk_put h0 (by omega) (by unfold frB; rw [decide_eq_true_eq]; exact Classical.not_not.mp q)]
        exact ih
  refine oh_go hG [(4, 4)] 10 ?_
  exact key 0 (by omega) (by omega)
def T_X5_free : Tr := tM1 s_free
theorem ok_X5_free : oh_Ok (pg_X5_free T_X5_reads T_X5_isBody T_X5_freeOf) 2 T_X5_free := by
  refine tO1_ok fun n b μ Post G hG hn hb hM h => ?_
  obtain rfl := n22 hn
  obtain ⟨A, hV, hR, h⟩ := h
  unfold s_free at h
  refine oh_go hG [] 40 ?_
  refine And.intro ⟨A, hV, hR, fun μ1 k1 k2 => ?_⟩ trivial
  obtain ⟨hK, hF⟩ := ki_rd hV hR k1 k2
  refine And.intro ?_ trivial
  refine And.intro (fun w => ⟨fun y => absurd y (by decide), fun _ => ?_⟩) (fun w => ⟨fun _ => ?_, fun y => absurd rfl y⟩)
  · rw [if_pos (by omega)] at h
    exact ⟨⟨A, hK, w, h μ1 hK.2.1 hF⟩, trivial⟩
  · rw [if_neg (by omega)] at h
    exact h μ1 hK.2.1 hF
/-- hours held by a table of owners -/
def hld (w : Int → Int) (law p : Int) : Int := sm (fun c => if act w law (c / 24) (c % 24) = p then 1 else 0) 144
def T_X5_holdsOf : Tr := tO1 22 fun n p μ Post => (tok (μ 30 0) ∧ 0 ≤ μ 22 0 13 ∧ μ 22 0 13 ≤ 2) ∧ Post (some (oI (hld (μ 30 0) (μ 22 0 13) p))) μ
theorem ok_X5_holdsOf : oh_Ok (pg_X5_holdsOf T_X5_actsNow) 4 T_X5_holdsOf := by
  refine tO1_ok fun n p μ Post G hG hn hp hM h => ?_
  obtain rfl := n22 hn
  obtain ⟨⟨ht, hl⟩, h⟩ := h
  unfold hld at h
  generalize hFc : (fun c => if act (μ 30 0) (μ 22 0 13) (c / 24) (c % 24) = p then (1 : Int) else 0) = Fc at h
  have hF0 : ∀ j, 0 ≤ Fc j := fun j => by
    rw [← hFc]
    dsimp only
    split <;> omega
  have hF1 : ∀ j, Fc j ≤ 1 := fun j => by
    rw [← hFc]
    dsimp only
    split <;> omega
  have key : ∀ c, 0 ≤ c → c ≤ 144 → G 4 [some (oR 22 0), some (oI p), some (oI (sm Fc c.toNat)), some (oI c)] [] μ := by
    refine oh_for (F := fun c => 0 ≤ c → c ≤ 144 → G 4 [some (oR 22 0), some (oI p), some (oI (sm Fc c.toNat)), some (oI c)] [] μ) 144 ?_ ?_
    · intro c hc h0 h1
      have e : c = 144 := by omega
      subst e
      refine oh_go hG [(4, 4)] 40 ?_
      exact ⟨fun _ => h, fun q => absurd hc q⟩
    · intro c hc ih h0 h1
      have ih := ih (by omega) (by omega)
      have eF : Fc c = if act (μ 30 0) (μ 22 0 13) (c / 24) (c % 24) = p then 1 else 0 := by rw [← hFc]
      rw [sm_s _ h0, eF] at ih
      have hr := sm_rg (f := Fc) (a := 0) (b := 1) hF0 hF1 c.toNat
      refine oh_go hG [(4, 4)] 40 ?_
      refine And.intro (fun q => absurd q (by omega)) (fun _ => ?_)
      refine And.intro (by omega) ?_
      refine And.intro (by omega) ?_
      refine And.intro ⟨⟨ht, hl, by omega, by omega⟩, ?_⟩ trivial
      refine And.intro (fun q => ?_) (fun q => ?_)
      · rw [if_neg q] at ih
        exact ⟨by omega, by omega, ih⟩
      · rw [if_pos (Classical.not_not.mp q)] at ih
        exact ⟨by omega, by omega, ih⟩
  refine oh_go hG [(4, 4)] 10 ?_
  exact key 0 (by omega) (by omega)
theorem ki_hld {A : Ab} {μ : Mem} (h : Ki A μ) (p : Int) : hld (μ 30 0) (μ 22 0 13) p = sm (hdB A p) 144 := sm_congr 144 (fun c a b => by
  rw [ki_an h (by omega) (by omega)]
  rfl)
def T_X5_holds : Tr := tM1 s_holds
theorem ok_X5_holds : oh_Ok (pg_X5_holds T_X5_reads T_X5_isBody T_X5_holdsOf) 2 T_X5_holds := by
  refine tO1_ok fun n b μ Post G hG hn hb hM h => ?_
  obtain rfl := n22 hn
  obtain ⟨A, hV, hR, h⟩ := h
  unfold s_holds at h
  refine oh_go hG [] 40 ?_
  refine And.intro ⟨A, hV, hR, fun μ1 k1 k2 => ?_⟩ trivial
  obtain ⟨hK, hF⟩ := ki_rd hV hR k1 k2
  refine And.intro ?_ trivial
  refine And.intro (fun w => ⟨fun y => absurd y (by decide), fun _ => ?_⟩) (fun w => ⟨fun _ => ?_, fun y => absurd rfl y⟩)
  · rw [if_pos (by omega)] at h
    refine And.intro ⟨⟨(ki_tok hK).2, by rw [(ki_law hK).1]; exact (ki_law hK).2⟩, ?_⟩ trivial
    rw [ki_hld hK]
    exact h μ1 hK.2.1 hF
  · rw [if_neg (by omega)] at h
    exact h μ1 hK.2.1 hF
def T_X5_wrongedBy : Tr := tO1 22 fun n l μ Post => (tok (μ 30 0) ∧ 0 ≤ l ∧ l ≤ 2) ∧ Post (some (oI (wrg (μ 30 0) l))) μ
theorem ok_X5_wrongedBy : oh_Ok (pg_X5_wrongedBy T_X5_actsBy) 4 T_X5_wrongedBy := by
  refine tO1_ok fun n l μ Post G hG hn hp hM h => ?_
  obtain rfl := n22 hn
  obtain ⟨⟨ht, hl⟩, h⟩ := h
  unfold wrg at h
  generalize hFc : (fun c => wr1 (μ 30 0) l (c % 24) (c / 24)) = Fc at h
  have hF0 : ∀ j, 0 ≤ Fc j := fun j => by
    rw [← hFc]
    exact (wr1_rg _ _ _ _).1
  have hF1 : ∀ j, Fc j ≤ 1 := fun j => by
    rw [← hFc]
    exact (wr1_rg _ _ _ _).2
  have key : ∀ c, 0 ≤ c → c ≤ 144 → G 4 [some (oR 22 0), some (oI l), some (oI (sm Fc c.toNat)), some (oI c)] [] μ := by
    refine oh_for (F := fun c => 0 ≤ c → c ≤ 144 → G 4 [some (oR 22 0), some (oI l), some (oI (sm Fc c.toNat)), some (oI c)] [] μ) 144 ?_ ?_
    · intro c hc h0 h1
      have e : c = 144 := by omega
      subst e
      refine oh_go hG [(4, 4)] 40 ?_
      exact ⟨fun _ => h, fun q => absurd hc q⟩
    · intro c hc ih h0 h1
      have ih := ih (by omega) (by omega)
      have eF : Fc c = if act (μ 30 0) l (c / 24) (c % 24) = c / 24 then 0 else 1 := by
        rw [← hFc]
        rfl
      rw [sm_s _ h0, eF] at ih
      have hr := sm_rg (f := Fc) (a := 0) (b := 1) hF0 hF1 c.toNat
      refine oh_go hG [(4, 4)] 40 ?_
      refine And.intro (fun q => absurd q (by omega)) (fun _ => ?_)
      refine And.intro (by omega) ?_
      refine And.intro (by omega) ?_
      refine And.intro ⟨⟨ht, hl, by omega, by omega⟩, ?_⟩ trivial
      refine And.intro (by omega) ?_
      refine And.intro (fun q => ?_) (fun q => ?_)
      · rw [if_neg q] at ih
        exact ⟨by omega, by omega, ih⟩
      · rw [if_pos (Classical.not_not.mp q)] at ih
        exact ⟨by omega, by omega, ih⟩
  refine oh_go hG [(4, 4)] 10 ?_
  exact key 0 (by omega) (by omega)
theorem wrg_congr {w w' : Int → Int} (ht : tok w) (hw : ∀ c, 0 ≤ c → c < 144 → w c = w' c) (l : Int) : wrg w l = wrg w' l := sm_congr 144 (fun c a b => by
  unfold wr1
  rw [act_congr ht hw (by omega) (by omega)])
theorem ki_wrg {A : Ab} {μ : Mem} (h : Ki A μ) (l : Int) : wrg (μ 30 0) l = wrg (aw A) l := wrg_congr (ki_tok h).2 (ki_w h) l
def T_X5_wronged : Tr := tM1 s_wronged
theorem ok_X5_wronged : oh_Ok (pg_X5_wronged T_X5_reads T_X5_in T_X5_wrongedBy) 2 T_X5_wronged := by
  refine tO1_ok fun n l μ Post G hG hn hb hM h => ?_
  obtain rfl := n22 hn
  obtain ⟨A, hV, hR, h⟩ := h
  unfold s_wronged at h
  refine oh_go hG [] 40 ?_
  refine And.intro ⟨A, hV, hR, fun μ1 k1 k2 => ?_⟩ trivial
  obtain ⟨hK, hF⟩ := ki_rd hV hR k1 k2
  refine And.intro ?_ trivial
  refine And.intro (fun w => ⟨fun y => absurd y (by decide), fun _ => ?_⟩) (fun w => ⟨fun _ => ?_, fun y => absurd rfl y⟩)
  · have w : 0 ≤ l ∧ l ≤ 2 := w
    rw [if_pos (by omega)] at h
    refine And.intro ⟨⟨(ki_tok hK).2, w⟩, ?_⟩ trivial
    rw [ki_wrg hK]
    exact h μ1 hK.2.1 hF
  · have w : ¬ (0 ≤ l ∧ l ≤ 2) := w
    rw [if_neg (by omega)] at h
    exact h μ1 hK.2.1 hF
def T_X5_gentlestNow : Tr := tO0 22 fun n μ Post => ∃ A, Ki A μ ∧ Post (some (oI (gnt A))) μ
theorem ok_X5_gentlestNow : oh_Ok (pg_X5_gentlestNow T_X5_wrongedBy) 3 T_X5_gentlestNow := by
  refine tO0_ok fun n μ Post G hG hn hM h => ?_
  obtain rfl := n22 hn
  obtain ⟨A, hK, h⟩ := h
  have hT : ∀ (l : Int) (P : Po), (0 ≤ l ∧ l ≤ 2) → P (some (oI (wrg (aw A) l))) μ → T_X5_wrongedBy [oR 22 0, oI l] μ P := fun l P hl hp => by
    refine ⟨⟨(ki_tok hK).2, hl⟩, ?_⟩
    rw [ki_wrg hK]
    exact hp
  have e2 : gnt A = if wrg (aw A) 2 < wrg (aw A) (if wrg (aw A) 1 < wrg (aw A) 0 then 1 else 0) then 2 else (if wrg (aw A) 1 < wrg (aw A) 0 then 1 else 0) := by
    unfold gnt
    by_cases c : wrg (aw A) 1 < wrg (aw A) 0
    · rw [if_pos c, if_pos c]
    · rw [if_neg c, if_neg c]
  have k34 : ∀ b : Int, b = gnt A → G 4 [some (oR 22 0), some (oI b), some (oI 3)] [] μ := fun b hb => by
    rw [← hb] at h
    refine oh_go hG [] 10 ?_
    exact And.intro (fun _ => h) (fun q => absurd q (by omega))
  have k2 : ∀ b : Int, b = (if wrg (aw A) 1 < wrg (aw A) 0 then 1 else 0) → G 4 [some (oR 22 0), some (oI b), some (oI 2)] [] μ := fun b hb => by
    have hb2 : 0 ≤ b ∧ b ≤ 1 := by
      rw [hb]
      split <;> omega
    rw [← hb] at e2
    refine oh_go hG [(4, 3)] 30 ?_
    refine And.intro (fun q => absurd q (by omega)) (fun _ => ?_)
    refine And.intro (hT 2 _ (by omega) ?_) trivial
    refine And.intro (hT b _ (by omega) ?_) trivial
    refine And.intro (fun q => ⟨by omega, k34 b ?_⟩) (fun q => ⟨by omega, k34 2 ?_⟩)
    · rw [e2, if_neg (by omega)]
    · rw [e2, if_pos (by omega)]
  refine oh_go hG [(4, 3)] 10 ?_
  refine oh_go hG [(4, 3)] 30 ?_
  refine And.intro (fun q => absurd q (by omega)) (fun _ => ?_)
  refine And.intro (hT 1 _ (by omega) ?_) trivial
  refine And.intro (hT 0 _ (by omega) ?_) trivial
  refine And.intro (fun q => ⟨by omega, k2 0 ?_⟩) (fun q => ⟨by omega, k2 1 ?_⟩)
  · rw [if_neg (by omega)]
  · rw [if_pos (by omega)]
def T_X5_gentlest : Tr := tM0 s_gentlest
theorem ok_X5_gentlest : oh_Ok (pg_X5_gentlest T_X5_reads T_X5_gentlestNow) 1 T_X5_gentlest := by
  refine tO0_ok fun n μ Post G hG hn hM h => ?_
  obtain rfl := n22 hn
  obtain ⟨A, hV, hR, h⟩ := h
  unfold s_gentlest at h
  dsimp only at h
  refine oh_go hG [] 40 ?_
  refine And.intro ⟨A, hV, hR, fun μ1 k1 k2 => ?_⟩ trivial
  obtain ⟨hK, hF⟩ := ki_rd hV hR k1 k2
  refine And.intro ⟨A, hK, ?_⟩ trivial
  exact h μ1 hK.2.1 hF
