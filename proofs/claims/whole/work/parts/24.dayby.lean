/-! THE DAY BY A LAW, lived when it is asked for; questions of who acts -/
/-- the day by law l is lived -/
def Fresh (A : Ab) (l : Nat) (μ : Mem) : Prop := dayOK l (aw A) (A 1) (tE 1 A) (A 3) l μ
theorem dayOK_w {law : Int} {w w' f : Int → Int} {e : Int} {hm : Int → Int} {n : Nat} {μ : Mem} (ht : tok w) (hw : ∀ c, 0 ≤ c → c < 144 → w c = w' c) (hv : ∀ k, 0 ≤ k → k < e → 0 ≤ oc f k ∧ oc f k < 144) (h : dayOK law w f e hm n μ) : dayOK law w' f e hm n μ := by
  obtain ⟨h1, h2, h3⟩ := h
  have ha : ∀ c, 0 ≤ c → c < 144 → Aw w law c = Aw w' law c := fun c a b => Aw_congr ht hw ⟨a, b⟩
  refine ⟨fun c a b => by rw [h1 c a b, ha c a b], fun b k hb hk => ?_, ?_⟩
  · have := dee_congr (d := dd (Aw w law) f e.toNat) (d' := dd (Aw w' law) f e.toNat) (b := b) (home := hm b) (k := k) hk (fun j a c => dd_congr (ha _ (by omega) (by omega)) _)
    rw [← this.1, ← this.2.1, ← this.2.2]
    exact h2 b k hb hk
  · rw [h3, mk_congr _ (fun j a b => dn_congr (ha _ (hv j a (by omega)).1 (hv j a (by omega)).2))]
def T_X4_dayBy : Tr := tO1 13 fun n l μ Post => ∃ A, RepC A μ ∧ (0 ≤ l ∧ l < 3) ∧ ∀ μ', RepC A μ' → FrC μ μ' → Fresh A l.toNat μ' → Post (some (oR 0 l.toNat)) μ'
theorem ok_X4_dayBy : oh_Ok (pg_X4_dayBy T_X0_live) 3 T_X4_dayBy := by
  refine tO1_ok fun n l μ Post G hG hn hl hM h => ?_
  obtain rfl := n13 hn
  obtain ⟨A, hR, hl3, h⟩ := h
  have e2 : ((l.toNat : Nat) : Int) = l := by omega
  have hlt : l.toNat < 3 := by omega
  obtain ⟨hX, hO, hD⟩ := id hR
  obtain ⟨d1, d2⟩ := hD l.toNat hlt
  refine oh_go hG [] 40 ?_
  refine And.intro hl3 ?_
  refine And.intro (fun x => h μ hR FrC_rf (d2 x)) (fun x => ?_)
  refine And.intro ?_ trivial
  have hT := hX.2.1
  have htok : tok (μ 8 0) := tok_congr (aw_tok hX.1.2.2.2.1) (fun c a b => (hO c a b).symm)
  refine ⟨l.toNat, rfl, ⟨htok, RepT_tq hT, (RepX_ov hT).1, (RepX_ov hT).2, fun b b0 b1 => by rw [hX.2.2.2.1.1]; exact hX.2.2.2.1.2 b b0 b1⟩, fun μ1 g1 g2 g3 g4 => ?_⟩
  have hrow : ∀ s n, ¬ (s ≤ 4 ∧ n = l.toNat) → μ1 s n = μ s n := fun s n hs => funext fun j => g1 s n j hs
  rw [RepT_ents hT, hT.2.2.2.2.2, hX.2.2.2.1.1, hX.2.2.1 _ hlt] at g4
  have hfr : Fresh A l.toNat μ1 := dayOK_w htok hO (fun k a b => by
    obtain ⟨-, e3, e4, -⟩ := ent_ok hT.2.2.2.1 a b
    unfold oc
    omega) g4
  refine h μ1 ⟨RepX_keep hX (fun s n hs => hrow s n (by omega)) (fun k hk => ?_), fun c a b => by rw [hrow 8 0 (by omega)]; exact hO c a b, fun k hk => ?_⟩ (fun s n hs => hrow s n (by omega)) hfr
  · by_cases e : k = l.toNat
    · rw [e]
      exact g2
    · rw [hrow 0 k (by omega)]
  · by_cases e : k = l.toNat
    · rw [e, g3]
      exact ⟨Or.inr rfl, fun _ => hfr⟩
    · rw [hrow 0 k (by omega)]
      exact ⟨(hD k hk).1, fun z => dayOK_keep ((hD k hk).2 z) (hrow _ _ (by omega)) (hrow _ _ (by omega)) (hrow _ _ (by omega)) (hrow _ _ (by omega)) (by rw [hrow 0 k (by omega)])⟩
theorem law_at {A : Ab} {μ : Mem} (h : RepC A μ) : μ 13 0 13 = A 2 2 ∧ 0 ≤ A 2 2 ∧ A 2 2 ≤ 2 := h.1.2.2.2.2.2.1
/-- the day by the LAW as it is, as dayBy gives it -/
theorem T_day {A : Ab} {μ : Mem} {Post : Po} (hR : RepC A μ) (h : ∀ μ', RepC A μ' → FrC μ μ' → Fresh A (A 2 2).toNat μ' → Post (some (oR 0 (A 2 2).toNat)) μ') : T_X4_dayBy [oR 13 0, oI (μ 13 0 13)] μ Post := by
  rw [(law_at hR).1]
  exact ⟨A, hR, ⟨(law_at hR).2.1, by have := (law_at hR).2.2; omega⟩, h⟩
theorem tokA {A : Ab} {μ : Mem} (h : RepC A μ) : tok (aw A) ∧ tok (μ 8 0) := ⟨aw_tok h.1.1.2.2.2.1, tok_congr (aw_tok h.1.1.2.2.2.1) (fun c a b => (h.2.1 c a b).symm)⟩
theorem awA {A : Ab} {μ : Mem} (h : RepC A μ) {b x : Int} (hb : 0 ≤ b ∧ b ≤ 5) (hx : 0 ≤ x ∧ x ≤ 23) : μ 8 0 (b * 24 + x) = aw A (b * 24 + x) := h.2.1 _ (by omega) (by omega)
/-- who acts by the LAW as it is -/
noncomputable def an (A : Ab) (b h : Int) : Int := act (aw A) (A 2 2) b h
theorem fr_act {A : Ab} {μ : Mem} (hR : RepC A μ) (h : Fresh A (A 2 2).toNat μ) {b x : Int} (hb : 0 ≤ b ∧ b ≤ 5) (hx : 0 ≤ x ∧ x ≤ 23) : μ 1 (A 2 2).toNat (b * 24 + x) = an A b x := by
  have e : (((A 2 2).toNat : Nat) : Int) = A 2 2 := by have := (law_at hR).2.1; omega
  rw [h.1 _ (by omega) (by omega), e, Aw_at _ _ hx]
  rfl
theorem fr_actc {A : Ab} {μ : Mem} (hR : RepC A μ) (h : Fresh A (A 2 2).toNat μ) {c : Int} (hc : 0 ≤ c ∧ c < 144) : μ 1 (A 2 2).toNat c = an A (c / 24) (c % 24) := by
  have e : (((A 2 2).toNat : Nat) : Int) = A 2 2 := by have := (law_at hR).2.1; omega
  rw [h.1 _ hc.1 hc.2, e]
  rfl
noncomputable def s_owns (A : Ab) (b h : Int) : Int × Ab := if (0 ≤ b ∧ b < 6) ∧ 0 ≤ h ∧ h < 24 then (aw A (b * 24 + h), A) else (-2, A)
def T_X4_owns : Tr := tC2 s_owns
theorem ok_X4_owns : oh_Ok (pg_X4_owns T_X4_isCell T_X1_owner) 3 T_X4_owns := by
  refine tO2_ok fun n b hh μ Post G hG hn hb hh0 hM h => ?_
  obtain rfl := n13 hn
  obtain ⟨A, hR, h⟩ := h
  unfold s_owns at h
  refine oh_go hG [] 40 ?_
  refine And.intro ?_ trivial
  refine And.intro (fun x => ⟨fun y => absurd y (by decide), fun _ => ?_⟩) (fun x => ⟨fun _ => ?_, fun y => absurd rfl y⟩)
  · rw [if_pos x] at h
    refine And.intro ⟨by omega, ?_⟩ trivial
    rw [awA hR (by omega) (by omega)]
    exact h μ hR FrC_rf
  · rw [if_neg x] at h
    exact h μ hR FrC_rf
noncomputable def s_acts (A : Ab) (b h : Int) : Int × Ab := if (0 ≤ b ∧ b < 6) ∧ 0 ≤ h ∧ h < 24 then (an A b h, A) else (-2, A)
def T_X4_acts : Tr := tC2 s_acts
theorem ok_X4_acts : oh_Ok (pg_X4_acts T_X4_isCell T_X4_dayBy T_X4_cell) 3 T_X4_acts := by
  refine tO2_ok fun n b hh μ Post G hG hn hb hh0 hM h => ?_
  obtain rfl := n13 hn
  obtain ⟨A, hR, h⟩ := h
  unfold s_acts at h
  refine oh_go hG [] 40 ?_
  refine And.intro ?_ trivial
  refine And.intro (fun x => ⟨fun y => absurd y (by decide), fun _ => ?_⟩) (fun x => ⟨fun _ => ?_, fun y => absurd rfl y⟩)
  · rw [if_pos x] at h
    refine And.intro (T_day hR (fun μ1 g1 g2 g3 => ?_)) trivial
    refine And.intro ⟨by omega, ?_⟩ trivial
    refine And.intro (by omega) ?_
    rw [fr_act g1 g3 (by omega) (by omega)]
    exact h μ1 g1 g2
  · rw [if_neg x] at h
    exact h μ hR FrC_rf
noncomputable def s_deep (A : Ab) (b h : Int) : Int × Ab := if (0 ≤ b ∧ b < 6) ∧ 0 ≤ h ∧ h < 24 then (sts (aw A) b h, A) else (-2, A)
def T_X4_deep : Tr := tC2 s_deep
theorem sts_A {A : Ab} {μ : Mem} (h : RepC A μ) {b x : Int} (hb : 0 ≤ b ∧ b ≤ 5) (hx : 0 ≤ x ∧ x ≤ 23) : sts (μ 8 0) b x = sts (aw A) b x := stq_congr (tokA h).2 h.2.1 hx 6 0 b hb
theorem ok_X4_deep : oh_Ok (pg_X4_deep T_X4_isCell T_X1_steps) 3 T_X4_deep := by
  refine tO2_ok fun n b hh μ Post G hG hn hb hh0 hM h => ?_
  obtain rfl := n13 hn
  obtain ⟨A, hR, h⟩ := h
  unfold s_deep at h
  refine oh_go hG [] 40 ?_
  refine And.intro ?_ trivial
  refine And.intro (fun x => ⟨fun y => absurd y (by decide), fun _ => ?_⟩) (fun x => ⟨fun _ => ?_, fun y => absurd rfl y⟩)
  · rw [if_pos x] at h
    refine And.intro ⟨⟨(tokA hR).2, by omega, by omega⟩, ?_⟩ trivial
    rw [sts_A hR (by omega) (by omega)]
    exact h μ hR FrC_rf
  · rw [if_neg x] at h
    exact h μ hR FrC_rf
noncomputable def frB (A : Ab) (b h : Int) : Bool := decide (an A b h = b)
noncomputable def s_free (A : Ab) (b : Int) : Int × Ab := if 0 ≤ b ∧ b < 6 then (((mk (frB A b) 24 : Nat) : Int), A) else (-2, A)
def T_X4_free : Tr := tC1 s_free
theorem ok_X4_free : oh_Ok (pg_X4_free T_X4_isBelow T_X4_dayBy T_X4_cell) 5 T_X4_free := by
  refine tO1_ok fun n b μ Post G hG hn hb hM h => ?_
  obtain rfl := n13 hn
  obtain ⟨A, hR, h⟩ := h
  unfold s_free at h
  refine oh_go hG [(26, 5)] 40 ?_
  refine And.intro ?_ trivial
  refine And.intro (fun x => ⟨fun _ => ?_, fun y => absurd (by decide) y⟩) (fun x => ⟨fun y => absurd rfl y, fun _ => ?_⟩)
  · rw [if_pos x] at h
    refine And.intro (T_day hR (fun μ1 g1 g2 g3 => ?_)) trivial
    have key : ∀ c, 0 ≤ c → c ≤ 24 → G 26 [some (oR 13 0), some (oI b), some (oR 0 (A 2 2).toNat), some (oI ((mk (frB A b) c.toNat : Nat) : Int)), some (oI c)] [] μ1 := by
      refine oh_for (F := fun c => 0 ≤ c → c ≤ 24 → G 26 [some (oR 13 0), some (oI b), some (oR 0 (A 2 2).toNat), some (oI ((mk (frB A b) c.toNat : Nat) : Int)), some (oI c)] [] μ1) 24 ?_ ?_
      · intro c hc h0 h1
        have e : c = 24 := by omega
        subst e
        refine oh_go hG [(26, 5)] 40 ?_
        exact ⟨fun _ => h μ1 g1 g2, fun q => absurd hc q⟩
      · intro c hc ih h0 h1
        have ih := ih (by omega) (by omega)
        refine oh_go hG [(26, 5)] 40 ?_
        refine And.intro (fun q => absurd q (by omega)) (fun _ => ?_)
        refine And.intro ⟨by omega, ?_⟩ trivial
        refine And.intro (by omega) ?_
        rw [fr_act g1 g3 (by omega) (by omega)]
        refine And.intro (fun q => ?_) (fun q => ?_)
        · rw [mk_skip h0 (by unfold frB; rw [decide_eq_true_eq]; exact q)] at ih
          exact ⟨by omega, ih⟩
        · refine And.intro (by omega) ?_
          rw [mk_put h0 (by omega) (by unfold frB; rw [decide_eq_true_eq]; exact Classical.not_not.mp q)]
          exact ih
    exact key 0 (by omega) (by omega)
  · rw [if_neg x] at h
    exact h μ hR FrC_rf
noncomputable def hdB (A : Ab) (p c : Int) : Int := if an A (c / 24) (c % 24) = p then 1 else 0
theorem hdB_rg (A : Ab) (p c : Int) : 0 ≤ hdB A p c ∧ hdB A p c ≤ 1 := by unfold hdB; split <;> omega
noncomputable def s_holds (A : Ab) (p : Int) : Int × Ab := if 0 ≤ p ∧ p < 6 then (sm (hdB A p) 144, A) else (-2, A)
def T_X4_holds : Tr := tC1 s_holds
theorem ok_X4_holds : oh_Ok (pg_X4_holds T_X4_isBelow T_X4_dayBy) 5 T_X4_holds := by
  refine tO1_ok fun n b μ Post G hG hn hb hM h => ?_
  obtain rfl := n13 hn
  obtain ⟨A, hR, h⟩ := h
  unfold s_holds at h
  refine oh_go hG [(26, 5)] 40 ?_
  refine And.intro ?_ trivial
  refine And.intro (fun x => ⟨fun _ => ?_, fun y => absurd (by decide) y⟩) (fun x => ⟨fun y => absurd rfl y, fun _ => ?_⟩)
  · rw [if_pos x] at h
    refine And.intro (T_day hR (fun μ1 g1 g2 g3 => ?_)) trivial
    have key : ∀ c, 0 ≤ c → c ≤ 144 → G 26 [some (oR 13 0), some (oI b), some (oR 0 (A 2 2).toNat), some (oI (sm (hdB A b) c.toNat)), some (oI c)] [] μ1 := by
      refine oh_for (F := fun c => 0 ≤ c → c ≤ 144 → G 26 [some (oR 13 0), some (oI b), some (oR 0 (A 2 2).toNat), some (oI (sm (hdB A b) c.toNat)), some (oI c)] [] μ1) 144 ?_ ?_
      · intro c hc h0 h1
        have e : c = 144 := by omega
        subst e
        refine oh_go hG [(26, 5)] 40 ?_
        exact ⟨fun _ => h μ1 g1 g2, fun q => absurd hc q⟩
      · intro c hc ih h0 h1
        have ih := ih (by omega) (by omega)
        rw [sm_s _ h0] at ih
        have hr := sm_rg (f := hdB A b) (a := 0) (b := 1) (fun j => (hdB_rg _ _ _).1) (fun j => (hdB_rg _ _ _).2) c.toNat
        unfold hdB at ih
        refine oh_go hG [(26, 5)] 40 ?_
        refine And.intro (fun q => absurd q (by omega)) (fun _ => ?_)
        refine And.intro (by omega) ?_
        rw [fr_actc g1 g3 (by omega)]
        refine And.intro (fun q => ?_) (fun q => ?_)
        · rw [if_neg q, Int.add_zero] at ih
          exact ⟨by omega, ih⟩
        · rw [if_pos (Classical.not_not.mp q)] at ih
          exact ⟨by omega, by omega, ih⟩
    exact key 0 (by omega) (by omega)
  · rw [if_neg x] at h
    exact h μ hR FrC_rf
/-- WRONGED of a law: over all cells, one body after the other -/
def wrg (w : Int → Int) (law : Int) : Int := sm (fun c => wr1 w law (c % 24) (c / 24)) 144
theorem sm_add (f : Int → Int) (n : Nat) : ∀ m : Nat, sm f (n + m) = sm f n + sm (fun j => f (n + j)) m
  | 0 => by simp [sm]
  | m + 1 => by
    show sm f (n + m) + f ((n + m : Nat) : Int) = sm f n + (sm (fun j => f (n + j)) m + f (n + (m : Int)))
    rw [sm_add f n m, Int.natCast_add, Int.add_assoc]
theorem sm_plus (f g : Int → Int) : ∀ n : Nat, sm (fun j => f j + g j) n = sm f n + sm g n
  | 0 => rfl
  | n + 1 => by
    show sm (fun j => f j + g j) n + (f n + g n) = sm f n + f n + (sm g n + g n)
    rw [sm_plus f g n]
    omega
theorem sm_zero : ∀ n : Nat, sm (fun _ => 0) n = 0
  | 0 => rfl
  | n + 1 => by
    show sm (fun _ => 0) n + 0 = 0
    rw [sm_zero n]
    rfl
theorem sm_swap (F : Int → Int → Int) (n : Nat) : ∀ m : Nat, sm (fun i => sm (fun j => F i j) n) m = sm (fun j => sm (fun i => F i j) m) n
  | 0 => (sm_zero n).symm
  | m + 1 => by
    show sm (fun i => sm (fun j => F i j) n) m + sm (fun j => F m j) n = sm (fun j => sm (fun i => F i j) m + F m j) n
    rw [sm_plus, sm_swap F n m]
/-- cells one after the other, or hour by hour -/
theorem sm_cells (F : Int → Int → Int) : sm (fun c => F (c / 24) (c % 24)) 144 = sm (fun h => sm (fun b => F b h) 6) 24 := by
  rw [← sm_swap (fun b h => F b h) 24 6]
  have step : ∀ k : Nat, sm (fun c => F (c / 24) (c % 24)) (24 * k) = sm (fun b => sm (fun h => F b h) 24) k := by
    intro k
    induction k with
    | zero => rfl
    | succ k ih =>
      have e : 24 * (k + 1) = 24 * k + 24 := by omega
      rw [e, sm_add, ih]
      show _ = sm (fun b => sm (fun h => F b h) 24) k + sm (fun h => F k h) 24
      congr 1
      refine sm_congr 24 (fun j a b => ?_)
      have e1 : (((24 * k : Nat) : Int) + j) / 24 = k := by omega
      have e2 : (((24 * k : Nat) : Int) + j) % 24 = j := by omega
      show F ((((24 * k : Nat) : Int) + j) / 24) ((((24 * k : Nat) : Int) + j) % 24) = _
      rw [e1, e2]
  exact step 6
theorem wrg_h (w : Int → Int) (law : Int) : wrg w law = sm (wrI w law) 24 := sm_cells (fun b h => wr1 w law h b)
theorem wrI_rg (w : Int → Int) (law h : Int) : 0 ≤ wrI w law h ∧ wrI w law h ≤ 6 := by
  have := sm_rg (f := wr1 w law h) (a := 0) (b := 1) (fun j => (wr1_rg _ _ _ _).1) (fun j => (wr1_rg _ _ _ _).2) 6
  unfold wrI
  omega
theorem wrI_congr {w w' : Int → Int} (ht : tok w) (hw : ∀ c, 0 ≤ c → c < 144 → w c = w' c) {law h : Int} (hh : 0 ≤ h ∧ h ≤ 23) : wrI w law h = wrI w' law h := sm_congr 6 (fun b a c => by
  unfold wr1
  rw [act_congr ht hw (by omega) hh])
noncomputable def s_wronged (A : Ab) (l : Int) : Int × Ab := if 0 ≤ l ∧ l < 3 then (wrg (aw A) l, A) else (-2, A)
def T_X4_wronged : Tr := tC1 s_wronged
theorem ok_X4_wronged : oh_Ok (pg_X4_wronged T_X4_isBelow T_X1_wrongedIn) 4 T_X4_wronged := by
  refine tO1_ok fun n l μ Post G hG hn hl hM h => ?_
  obtain rfl := n13 hn
  obtain ⟨A, hR, h⟩ := h
  unfold s_wronged at h
  refine oh_go hG [(15, 4)] 40 ?_
  refine And.intro ?_ trivial
  refine And.intro (fun x => ⟨fun _ => ?_, fun y => absurd (by decide) y⟩) (fun x => ⟨fun y => absurd rfl y, fun _ => ?_⟩)
  · rw [if_pos x, wrg_h] at h
    have key : ∀ c, 0 ≤ c → c ≤ 24 → G 15 [some (oR 13 0), some (oI l), some (oI (sm (wrI (aw A) l) c.toNat)), some (oI c)] [] μ := by
      refine oh_for (F := fun c => 0 ≤ c → c ≤ 24 → G 15 [some (oR 13 0), some (oI l), some (oI (sm (wrI (aw A) l) c.toNat)), some (oI c)] [] μ) 24 ?_ ?_
      · intro c hc h0 h1
        have e : c = 24 := by omega
        subst e
        refine oh_go hG [(15, 4)] 40 ?_
        exact ⟨fun _ => h μ hR FrC_rf, fun q => absurd hc q⟩
      · intro c hc ih h0 h1
        have ih := ih (by omega) (by omega)
        rw [sm_s _ h0] at ih
        have hr := sm_rg (f := wrI (aw A) l) (a := 0) (b := 6) (fun j => (wrI_rg _ _ _).1) (fun j => (wrI_rg _ _ _).2) c.toNat
        have hr2 := wrI_rg (aw A) l c
        refine oh_go hG [(15, 4)] 40 ?_
        refine And.intro (fun q => absurd q (by omega)) (fun _ => ?_)
        refine And.intro ⟨⟨(tokA hR).2, by omega, by omega⟩, ?_⟩ trivial
        rw [wrI_congr (tokA hR).2 hR.2.1 (by omega)]
        exact ⟨by omega, by omega, ih⟩
    exact key 0 (by omega) (by omega)
  · rw [if_neg x] at h
    exact h μ hR FrC_rf
noncomputable def gnt (A : Ab) : Int := if wrg (aw A) 2 < (if wrg (aw A) 1 < wrg (aw A) 0 then wrg (aw A) 1 else wrg (aw A) 0) then 2 else if wrg (aw A) 1 < wrg (aw A) 0 then 1 else 0
noncomputable def s_gentlest (A : Ab) : Int × Ab := (gnt A, A)
def T_X4_gentlest : Tr := tC0 s_gentlest
theorem s_wr {A : Ab} {l : Int} (h : 0 ≤ l ∧ l < 3) : s_wronged A l = (wrg (aw A) l, A) := if_pos h
theorem ok_X4_gentlest : oh_Ok (pg_X4_gentlest T_X4_wronged) 5 T_X4_gentlest := by
  refine tO0_ok fun n μ Post G hG hn hM h => ?_
  obtain rfl := n13 hn
  obtain ⟨A, hR, h⟩ := h
  unfold s_gentlest at h
  dsimp only at h
  unfold gnt at h
  have call : ∀ (l : Int) (μ1 : Mem) (Q : Po), (0 ≤ l ∧ l < 3) → RepC A μ1 → FrC μ μ1 → (∀ μ2, RepC A μ2 → FrC μ μ2 → Q (some (oI (wrg (aw A) l))) μ2) → T_X4_wronged [oR 13 0, oI l] μ1 Q := fun l μ1 Q hl h1 h2 h3 => ⟨A, h1, fun μ2 g1 g2 => by
    rw [s_wr hl] at g1 ⊢
    exact h3 μ2 g1 (FrC_tr h2 g2)⟩
  have last : ∀ (b v : Int) (μ2 : Mem), RepC A μ2 → FrC μ μ2 → b = (if wrg (aw A) 1 < wrg (aw A) 0 then 1 else 0) → v = (if wrg (aw A) 1 < wrg (aw A) 0 then wrg (aw A) 1 else wrg (aw A) 0) → G 10 [some (oR 13 0), some (oI b), some (oI v), some (oI (1 + 1)), none] [] μ2 := fun b v μ2 g3 g4 hb hv => by
    rw [← hb, ← hv] at h
    refine oh_go hG [] 80 ?_
    refine And.intro (fun q => absurd q (by decide)) (fun _ => ?_)
    refine And.intro (call 2 μ2 _ (by decide) g3 g4 (fun μ3 g5 g6 => ?_)) trivial
    refine And.intro (fun x => ?_) (fun x => ?_)
    · rw [if_neg (by omega)] at h
      refine And.intro (by decide) ?_
      exact ⟨fun _ => h μ3 g5 g6, fun q => absurd (by decide) q⟩
    · rw [if_pos (by omega)] at h
      refine And.intro (by decide) ?_
      exact ⟨fun _ => h μ3 g5 g6, fun q => absurd (by decide) q⟩
  refine oh_go hG [(10, 4)] 80 ?_
  refine And.intro (call 0 μ _ (by decide) hR FrC_rf (fun μ1 g1 g2 => ?_)) trivial
  refine oh_go hG [(10, 4)] 80 ?_
  refine And.intro (fun q => absurd q (by decide)) (fun _ => ?_)
  refine And.intro (call 1 μ1 _ (by decide) g1 g2 (fun μ2 g3 g4 => ?_)) trivial
  refine And.intro (fun x => ?_) (fun x => ?_)
  · refine And.intro (by decide) ?_
    exact last 0 _ μ2 g3 g4 (by rw [if_neg (by omega)]) (by rw [if_neg (by omega)])
  · refine And.intro (by decide) ?_
    exact last 1 _ μ2 g3 g4 (by rw [if_pos (by omega)]) (by rw [if_pos (by omega)])
